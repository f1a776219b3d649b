/-! The reference: addBase -/
set_option maxRecDepth 100000 in
theorem S_X7_addBase {C : zK} (hC : zCld 215 zTT C) {h : zH} {n : Nat} {K : zQ} {r th : Nat} {A : zA} (H : zY h r A th) (W : zwA A) {x : Int32} (H1 : ∀ h', zY h' r (zoC (zcA x A.1) A).2.1 (zoC (zcA x A.1) A).1 → zOff r (r + 12) h h' → K 0 (some (.int (zoC (zcA x A.1) A).2.2)) h' n) : C 136 [.ref r, .int x] h n K := by
  obtain ⟨c, H, -⟩ := H
  have hsl := W.2.2.1
  have hnb := H.1.bs
  have wb := W.1.1
  have wu : (zba A.1).length ≤ zus A.1 := W.1.2.1
  have wu3 : zus A.1 ≤ 30 := W.1.2.2.1
  obtain ⟨b1, f, b2, b3⟩ := id H.1
  refine zd_X7_addBase hC rfl fun P hgo hF => ?_
  have bad : ∀ x', zps x 100 = some x' → ¬ zgrow A.1 → P 57 [some (.ref r), some (.int x), none] [.ref r] h n 0 0 := by
    intro x' e g
    have e1 : zcA x A.1 = (2, A.1, 0) := by
      unfold zcA
      rw [e]
      exact if_neg g
    rw [e1] at H1
    refine hgo [] 40 _ _ _ _ _ _ _ ?_
    conv => whnf
    refine ⟨_, H.ob, ?_⟩
    refine S_yref hC H (k := 2) (by decide) (fun _ h2 c2 H2 e2 o2 => ?_) (fun z => absurd z (by decide))
    conv => whnf
    refine ⟨fun z => absurd z (by decide), fun _ => ?_⟩
    conv => whnf
    exact H1 h2 ⟨c2, H2, e2⟩ (o2.wd (by omega) (by omega))
  have good : ∀ x', zps x 100 = some x' → zgrow A.1 → P 61 [some (.ref r), some (.int x), none] [.ref r] h n 0 0 := by
    intro x' e g
    obtain ⟨a1, a2⟩ := zps_some e
    obtain ⟨g1, g2, g3, g4⟩ := id g
    have e1 : zcA x A.1 = (0, zgr A.1 x', nI (zus A.1)) := by
      unfold zcA
      rw [e]
      exact if_pos g
    rw [e1] at H1
    refine hgo [100] 60 _ _ _ _ _ _ _ ?_
    conv => whnf
    refine ⟨_, H.ob, ?_⟩
    refine S_yref hC H (k := 0) (by decide) (fun z => absurd z (by decide)) (fun _ h2 c2 H2 e2 o2 => ?_)
    conv => whnf
    refine ⟨fun _ => ?_, fun z => absurd rfl z⟩
    conv => whnf
    refine ⟨_, H2.ob, ?_⟩
    refine S_ysave hC H2 hsl (fun h3 c3 H3 e3 o3 => ?_)
    obtain ⟨q1, f3, q2, q3⟩ := id H3.1
    have q30 : f3 0 = nI (zba A.1).length := q3.1
    have q31 : f3 1 = nI (zus A.1) := q3.2.1
    conv => whnf
    refine ⟨_, q1, _, rfl, ?_⟩
    conv => whnf
    refine ⟨_, _, q2, vp_in_nI (n := 0) (by omega) (by decide), ?_⟩
    conv => whnf
    rw [show (0 : Int32).toNatClampNeg = 0 by decide, q30]
    refine ⟨_, q1, _, rfl, ?_⟩
    conv => whnf
    rw [show (2 : Int32) + nI (zba A.1).length = nI (2 + (zba A.1).length) from nI_add 2 _]
    refine ⟨_, _, q2, vp_in_nI (by omega) (by decide), ?_⟩
    rw [nI_clamp (by omega)]
    conv => whnf
    have o4 : zOff (r + 1) (r + 2) h3 (zupd h3 (r + 1) (.inl (0, 106, .inl (upd f3 (2 + (zba A.1).length) x)))) := zOff.up (Nat.le_refl _) (by omega)
    have s1 := (o4 r (by omega)).trans q1
    have s2 := zupd_s (h := h3) (a := r + 1) (c := .inl (0, 106, .inl (upd f3 (2 + (zba A.1).length) x)))
    generalize zupd h3 (r + 1) (.inl (0, 106, .inl (upd f3 (2 + (zba A.1).length) x))) = h4 at o4 s1 s2 ⊢
    refine ⟨_, s1, _, rfl, ?_⟩
    conv => whnf
    refine ⟨_, _, s2, vp_in_nI (n := 0) (by omega) (by decide), ?_⟩
    conv => whnf
    rw [show (0 : Int32).toNatClampNeg = 0 by decide, upd_n (show 0 ≠ 2 + (zba A.1).length by omega), q30]
    refine ⟨_, _, s2, vp_in_nI (n := 0) (by omega) (by decide), ?_⟩
    conv => whnf
    rw [nI_1]
    have o5 : zOff (r + 1) (r + 2) h4 (zupd h4 (r + 1) (.inl (0, 106, .inl (upd (upd f3 (2 + (zba A.1).length) x) 0 (nI ((zba A.1).length + 1)))))) := zOff.up (Nat.le_refl _) (by omega)
    have t1 := (o5 r (by omega)).trans s1
    have t2 := zupd_s (h := h4) (a := r + 1) (c := .inl (0, 106, .inl (upd (upd f3 (2 + (zba A.1).length) x) 0 (nI ((zba A.1).length + 1)))))
    refine (show ∀ h5, zOff (r + 1) (r + 2) h4 h5 → h5 r = zRO r c3 → h5 (r + 1) = .inl (0, 106, .inl (upd (upd f3 (2 + (zba A.1).length) x) 0 (nI ((zba A.1).length + 1)))) → P 100 [some (.ref r), some (.int x), some (.int (nI (zba A.1).length))] [] h5 n 0 0 from ?_) _ o5 t1 t2
    clear o5 t1 t2
    intro h5 o5 t1 t2
    refine hgo [] 60 _ _ _ _ _ _ _ ?_
    conv => whnf
    refine ⟨_, t1, _, rfl, ?_⟩
    conv => whnf
    refine ⟨_, _, t2, vp_in_nI (n := 1) (by omega) (by decide), ?_⟩
    conv => whnf
    rw [show (1 : Int32).toNatClampNeg = 1 by decide, upd_n (show 1 ≠ 0 by omega), upd_n (show 1 ≠ 2 + (zba A.1).length by omega), q31]
    refine ⟨_, _, t2, vp_in_nI (n := 1) (by omega) (by decide), ?_⟩
    conv => whnf
    rw [nI_1]
    have o6 : zOff (r + 1) (r + 2) h5 (zupd h5 (r + 1) (.inl (0, 106, .inl (upd (upd (upd f3 (2 + (zba A.1).length) x) 0 (nI ((zba A.1).length + 1))) 1 (nI (zus A.1 + 1)))))) := zOff.up (Nat.le_refl _) (by omega)
    have H6 : zRr (zupd h5 (r + 1) (.inl (0, 106, .inl (upd (upd (upd f3 (2 + (zba A.1).length) x) 0 (nI ((zba A.1).length + 1))) 1 (nI (zus A.1 + 1)))))) r c3 (zba A.1 ++ [(zus A.1, x')], zd0 A.1, zd1 A.1, zus A.1 + 1, zpf A.1, zac A.1, zch A.1) := by
      obtain ⟨p1, p2, p3, p4, p5, p6, p7, p8, p9, p10, p11, p12⟩ := q3
      have kk : ∀ w, 2 ≤ w → w ≠ 2 + (zba A.1).length → upd (upd (upd f3 (2 + (zba A.1).length) x) 0 (nI ((zba A.1).length + 1))) 1 (nI (zus A.1 + 1)) w = f3 w := by
        intro w hw hw2
        rw [upd_n (by omega), upd_n (by omega), upd_n hw2]
      have hlen : (zba A.1 ++ [(zus A.1, x')]).length = (zba A.1).length + 1 := by
        rw [List.length_append]
        rfl
      refine ⟨(o6 r (by omega)).trans t1, _, zupd_s, ?_, upd_s, fun i v hv => ?_, fun d2 hd2 => ?_, fun k hk => (kk _ (by omega) (by omega)).trans (p5 k hk), (kk _ (by omega) (by omega)).trans p6, (kk _ (by omega) (by omega)).trans p7, ?_, p9, fun v hv => ?_, p11, ?_⟩
      · rw [upd_n (by omega), upd_s]
        show nI ((zba A.1).length + 1) = nI (zba A.1 ++ [(zus A.1, x')]).length
        rw [hlen]
      · have hv' : (zba A.1 ++ [(zus A.1, x')])[i]? = some v := hv
        by_cases c1 : i < (zba A.1).length
        · rw [List.getElem?_append_left c1] at hv'
          exact (kk _ (by omega) (by omega)).trans (p3 i v hv')
        · have c3 : i = (zba A.1).length := by
            have h9 := (List.getElem?_eq_some_iff.mp hv').1
            rw [hlen] at h9
            omega
          rw [c3, List.getElem?_append_right (Nat.le_refl _), Nat.sub_self] at hv'
          have e7 : (zus A.1, x') = v := Option.some.inj hv'
          rw [c3, upd_n (by omega), upd_n (by omega), upd_s, ← e7]
          exact a1
      · obtain ⟨r1, r2⟩ := p4 d2 hd2
        refine ⟨(kk _ (by omega) (by omega)).trans r1, fun j v hv => ?_⟩
        exact ⟨(kk _ (by omega) (by omega)).trans (r2 j v hv).1, (kk _ (by omega) (by omega)).trans (r2 j v hv).2⟩
      · show (zba A.1 ++ [(zus A.1, x')]).length ≤ 10
        omega
      · have hv' : v ∈ zba A.1 ++ [(zus A.1, x')] := hv
        rcases List.mem_append.mp hv' with z | z
        · exact p10 v z
        · rw [List.mem_singleton.mp z]
          exact ⟨by show zus A.1 < 1000; omega, by show x' < 1000; omega⟩
      · show zus A.1 + 1 ≤ 1000
        omega
    generalize zupd h5 (r + 1) (.inl (0, 106, .inl (upd (upd (upd f3 (2 + (zba A.1).length) x) 0 (nI ((zba A.1).length + 1))) 1 (nI (zus A.1 + 1))))) = h6 at o6 H6 ⊢
    have d0 : zd0 A.1 = zba A.1 := g3.symm
    have d1 : zd1 A.1 = zba A.1 := g4.symm
    refine ⟨_, H6.ob, ?_⟩
    rw [a1, ← g2]
    refine S_X7_puts hC H6 (d := 0) (p := zus A.1) (by decide) (by show zus A.1 ≤ (zd0 A.1).length; rw [d0]; omega) (by show (zd0 A.1).length < 15; rw [d0]; omega) ⟨by omega, by omega⟩ (fun h7 H7 o7 => ?_)
    conv => whnf
    refine ⟨_, H7.ob, ?_⟩
    refine S_X7_puts hC H7 (d := 1) (p := zus A.1) (by decide) (by show zus A.1 ≤ (zd1 A.1).length; rw [d1]; omega) (by show (zd1 A.1).length < 15; rw [d1]; omega) ⟨by omega, by omega⟩ (fun h8 H8 o8 => ?_)
    have k0 : (zd0 A.1).insertIdx (zus A.1) (zus A.1, x') = zd0 A.1 ++ [(zus A.1, x')] := by
      have : zus A.1 = (zd0 A.1).length := by rw [d0]; exact g2
      generalize zus A.1 = u at this ⊢
      rw [show (zd0 A.1).insertIdx u (u, x') = (zd0 A.1).insertIdx (zd0 A.1).length (u, x') by rw [← this]]
      exact List.insertIdx_length_self
    have k1 : (zd1 A.1).insertIdx (zus A.1) (zus A.1, x') = zd1 A.1 ++ [(zus A.1, x')] := by
      have : zus A.1 = (zd1 A.1).length := by rw [d1]; exact g2
      generalize zus A.1 = u at this ⊢
      rw [show (zd1 A.1).insertIdx u (u, x') = (zd1 A.1).insertIdx (zd1 A.1).length (u, x') by rw [← this]]
      exact List.insertIdx_length_self
    have H9 : zRr h8 r c3 (zba A.1 ++ [(zus A.1, x')], (zd0 A.1).insertIdx (zus A.1) (zus A.1, x'), (zd1 A.1).insertIdx (zus A.1) (zus A.1, x'), zus A.1 + 1, zpf A.1, zac A.1, zch A.1) := H8
    rw [k0, k1] at H9
    have o9 := ((((o4.tr o5).tr o6).tr o7).tr o8)
    conv => whnf
    exact H1 h8 ⟨c3, H3.put (σ := zgr A.1 x') H9 o9, e3.trans e2⟩ (((o2.wd (by omega) (by omega)).tr o3).tr (o9.wd (by omega) (by omega)))
  refine hgo [57, 61] 60 _ _ _ _ _ _ _ ?_
  conv => whnf
  refine S_in99 hC (fun x' e => ?_) (fun e => ?_)
  · conv => whnf
    refine ⟨fun _ => ?_, fun z => absurd z (by decide)⟩
    conv => whnf
    refine ⟨_, b1, _, rfl, ?_⟩
    conv => whnf
    refine ⟨_, _, b2, vp_in_nI (n := 0) (by omega) (by decide), ?_⟩
    conv => whnf
    rw [show (0 : Int32).toNatClampNeg = 0 by decide, b3.1]
    refine ⟨fun q => ?_, fun q => ?_⟩
    · have h10 : (zba A.1).length = 10 := nI_inj (b := 10) (by omega) (by decide) q
      exact bad x' e (fun g => by have := g.1; omega)
    · have h10 : ¬ (zba A.1).length = 10 := fun z => q (by rw [z]; rfl)
      conv => whnf
      refine ⟨_, b1, _, rfl, ?_⟩
      conv => whnf
      refine ⟨_, _, b2, vp_in_nI (n := 1) (by omega) (by decide), ?_⟩
      conv => whnf
      refine ⟨_, b1, _, rfl, ?_⟩
      conv => whnf
      refine ⟨_, _, b2, vp_in_nI (n := 0) (by omega) (by decide), ?_⟩
      conv => whnf
      rw [show (0 : Int32).toNatClampNeg = 0 by decide, show (1 : Int32).toNatClampNeg = 1 by decide, b3.1, b3.2.1]
      refine ⟨fun q2 => ?_, fun q2 => ?_⟩
      · have h11 := (nI_ltI (a := (zba A.1).length) (b := zus A.1) (by omega) (by omega)).mp q2
        exact bad x' e (fun g => by have := g.2.1; omega)
      · have h11 : ¬ (zba A.1).length < zus A.1 := fun z => q2 ((nI_ltI (a := (zba A.1).length) (b := zus A.1) (by omega) (by omega)).mpr z)
        conv => whnf
        refine ⟨_, b1, ?_⟩
        refine S_X7_isChanged hC H.1 (d := 0) (by decide) wb (fun y => ?_) (fun y => ?_)
        · conv => whnf
          refine ⟨fun _ => ?_, fun z => absurd z (by decide)⟩
          exact bad x' e (fun g => y g.2.2.1)
        · conv => whnf
          refine ⟨fun z => absurd rfl z, fun _ => ?_⟩
          conv => whnf
          refine ⟨_, b1, ?_⟩
          refine S_X7_isChanged hC H.1 (d := 1) (by decide) wb (fun y2 => ?_) (fun y2 => ?_)
          · conv => whnf
            refine ⟨fun z => absurd z (by decide), fun _ => ?_⟩
            exact bad x' e (fun g => y2 g.2.2.2)
          · conv => whnf
            refine ⟨fun _ => ?_, fun z => absurd rfl z⟩
            exact good x' e ⟨by omega, by omega, y, y2⟩
  · have e1 : zcA x A.1 = (1, A.1, 0) := by
      unfold zcA
      rw [e]
    rw [e1] at H1
    conv => whnf
    refine ⟨fun z => absurd rfl z, fun _ => ?_⟩
    conv => whnf
    refine ⟨_, H.ob, ?_⟩
    refine S_yref hC H (k := 1) (by decide) (fun _ h2 c2 H2 e2 o2 => ?_) (fun z => absurd z (by decide))
    conv => whnf
    refine ⟨fun z => absurd z (by decide), fun _ => ?_⟩
    conv => whnf
    exact H1 h2 ⟨c2, H2, e2⟩ (o2.wd (by omega) (by omega))

