/-! The reference: choose -/
set_option maxRecDepth 100000 in
theorem S_ysave2 {C : zK} (hC : zCld 215 zTT C) {h : zH} {n : Nat} {K : zQ} {r : Nat} {c : Nat → Int32} {A : zA} (H : zYc h r c A) (hl : A.2.1.length ≤ 6) (H1 : ∀ h' c', zYc h' r c' (A.1, (A.1 :: A.2.1).take 6, A.2.2) → (∀ j, j ≠ 2 → c' j = c j) → (∀ a, a ≠ r → a ≠ r + 2 → h' a = h a) → K 0 none h' n) : C 122 [.ref r] h n K := by
  obtain ⟨⟨a1, f, a2, a3⟩, ⟨bf, b1, b2⟩, ⟨tf, t1, t2⟩, s, e2, e4⟩ := H
  refine S_X7_saves hC a1 a2 a3 b1 b2 e2 hl (fun h' c' bf' g1 g2 g3 g4 g5 g6 => ?_)
  exact H1 h' c' ⟨⟨g1, f, (g6 _ (by omega) (by omega)).trans a2, a3⟩, ⟨bf', g4, g5⟩, ⟨tf, (g6 _ (by omega) (by omega)).trans t1, t2⟩, s.eq (fun a h5 h6 => g6 a (by omega) (by omega)), g2, (g3 4 (by decide)).trans e4⟩ g3 g6
theorem zd3 {d : Int32} (h1 : -1 ≤ d) (h2 : d ≤ 1) : d = -1 ∨ d = 0 ∨ d = 1 := by
  rw [Int32.le_iff_toInt_le, show (-1 : Int32).toInt = -1 by decide] at h1
  rw [Int32.le_iff_toInt_le, show (1 : Int32).toInt = 1 by decide] at h2
  rcases (by omega : d.toInt = -1 ∨ d.toInt = 0 ∨ d.toInt = 1) with e | e | e
  · exact Or.inl (Int32.toInt_inj.mp (e.trans (by decide)))
  · exact Or.inr (Or.inl (Int32.toInt_inj.mp (e.trans (by decide))))
  · exact Or.inr (Or.inr (Int32.toInt_inj.mp (e.trans (by decide))))
theorem zRs.ch {f : Nat → Int32} {σ : zS} (H : zRs f σ) {m : Nat} (hm : m < 30) {x : Int32} : zRs (upd f (74 + m) (x + 1)) (zba σ, zd0 σ, zd1 σ, zus σ, zpf σ, zac σ, upd (zch σ) m x) := by
  obtain ⟨p1, p2, p3, p4, p5, p6, p7, p8, p9, p10, p11, p12⟩ := H
  refine ⟨(upd_n (by omega)).trans p1, (upd_n (by omega)).trans p2, fun i v hv => ?_, fun d2 hd2 => ?_, fun k hk => ?_, (upd_n (by omega)).trans p6, (upd_n (by omega)).trans p7, p8, p9, p10, p11, p12⟩
  · have hi : i < (zba σ).length := (List.getElem?_eq_some_iff.mp hv).1
    have p8' : (zba σ).length ≤ 10 := p8
    exact (upd_n (by omega)).trans (p3 i v hv)
  · obtain ⟨q1, q2⟩ := p4 d2 hd2
    refine ⟨(upd_n (by omega)).trans q1, fun j v hv => ?_⟩
    have hj : j < (zdr σ d2).length := (List.getElem?_eq_some_iff.mp hv).1
    have p9' : (zdr σ d2).length ≤ 15 := p9 d2
    exact ⟨(upd_n (by omega)).trans (q2 j v hv).1, (upd_n (by omega)).trans (q2 j v hv).2⟩
  · show upd f (74 + m) (x + 1) (74 + k) = upd (zch σ) m x k + 1
    by_cases e : k = m
    · rw [e, upd_s, upd_s]
    · rw [upd_n (by omega), upd_n e]
      exact p5 k hk
set_option maxRecDepth 100000 in
theorem S_X7_choose {C : zK} (hC : zCld 215 zTT C) {h : zH} {n : Nat} {K : zQ} {r th : Nat} {A : zA} (H : zY h r A th) (W : zwA A) {p d : Int32} (H1 : ∀ h', zY h' r (zoC (zcC p d A.1) A).2.1 (zoC (zcC p d A.1) A).1 → zOff r (r + 12) h h' → K 0 (some (.int (zoC (zcC p d A.1) A).2.2)) h' n) : C 171 [.ref r, .int p, .int d] h n K := by
  obtain ⟨c, H, -⟩ := H
  have hsl := W.2.2.1
  refine zd_X7_choose hC rfl fun P hgo hF => ?_
  refine hgo [] 60 _ _ _ _ _ _ _ ?_
  conv => whnf
  refine ⟨_, H.ob, ?_⟩
  refine S_ymerges hC H W.1 (fun h3 c3 H3 M3 Q3 g3 o3 => ?_)
  have hl : (zQ0 A.1).length ≤ 20 := Q3.2.1
  have hnb := H.1.bs
  obtain ⟨-, -, -, af, kf, m6, m7, m8⟩ := id Q3
  conv => whnf
  refine ⟨_, H3.ob, _, rfl, ?_⟩
  conv => whnf
  rw [Q3.1]
  refine S_inN hC (N := (zQ0 A.1).length) (by omega) (zlt_pred (by omega)) (fun j e => ?_) (fun e => ?_)
  · obtain ⟨a1, a2⟩ := zps_some e
    obtain ⟨u, u1, u2, u3, u4⟩ := znm_lt a2
    have hu := zcfl_in u2
    conv => whnf
    refine ⟨fun _ => ?_, fun z => absurd z (by decide)⟩
    conv => whnf
    refine S_X7_in hC (fun z1 z2 => ?_) (fun z => ?_)
    · have e1 : zcC p d A.1 = (0, (zba A.1, zd0 A.1, zd1 A.1, zus A.1, zpf A.1, zac A.1, upd (zch A.1) (u.1 * 3 + (u.2 - 1)) d), zch A.1 (u.1 * 3 + (u.2 - 1))) := by
        unfold zcC
        rw [e]
        show (if d = -1 ∨ d = 0 ∨ d = 1 then _ else _) = _
        rw [if_pos (zd3 z1 z2), u3, u4]
      rw [e1] at H1
      conv => whnf
      refine ⟨fun z => absurd z (by decide), fun _ => ?_⟩
      conv => whnf
      refine ⟨_, H3.ob, ?_⟩
      refine S_yref2 hC H3 (k := 0) (by decide) (fun z => absurd z (by decide)) (fun _ h4 c4 H4 e4 g4 o4 => ?_)
      conv => whnf
      refine ⟨fun _ => ?_, fun z => absurd rfl z⟩
      conv => whnf
      refine ⟨_, H4.ob, ?_⟩
      refine S_ysave2 hC H4 hsl (fun h5 c5 H5 e5 o5 => ?_)
      have x7 := ((o5 (r + 7) (by omega) (by omega)).trans (o4 _ (by omega))).trans m6
      have x8 := ((o5 (r + 8) (by omega) (by omega)).trans (o4 _ (by omega))).trans m7
      obtain ⟨b1, f, b2, b3⟩ := id H5.1
      have hch : f (74 + (u.1 * 3 + (u.2 - 1))) = zch A.1 (u.1 * 3 + (u.2 - 1)) + 1 := b3.2.2.2.2.1 _ (by omega)
      rw [a1]
      conv => whnf
      refine ⟨_, b1, _, rfl, ?_⟩
      conv => whnf
      refine ⟨_, _, x7, vp_in_nI (show j < 20 by omega) (by decide), ?_⟩
      rw [nI_clamp (show j < 2 ^ 31 by omega), (m8 j u u1).1]
      conv => whnf
      refine ⟨_, b1, _, rfl, ?_⟩
      conv => whnf
      refine ⟨_, _, x8, vp_in_nI (show j < 20 by omega) (by decide), ?_⟩
      rw [nI_clamp (show j < 2 ^ 31 by omega), (m8 j u u1).2]
      conv => whnf
      rw [show (74 : Int32) + 3 * nI u.1 + nI u.2 - 1 = nI (74 + (u.1 * 3 + (u.2 - 1))) by
        rw [show (74 : Int32) = nI 74 by decide, show (3 : Int32) = nI 3 by decide, pk_mul, nI_add, nI_add, show 74 + 3 * u.1 + u.2 = 74 + (u.1 * 3 + (u.2 - 1)) + 1 by omega, nI_pred]]
      refine ⟨_, b1, _, rfl, ?_⟩
      conv => whnf
      refine ⟨_, _, b2, vp_in_nI (show 74 + (u.1 * 3 + (u.2 - 1)) < 106 by omega) (by decide), ?_⟩
      rw [nI_clamp (show 74 + (u.1 * 3 + (u.2 - 1)) < 2 ^ 31 by omega), hch]
      conv => whnf
      refine ⟨_, b1, _, rfl, ?_⟩
      conv => whnf
      refine ⟨_, _, b2, vp_in_nI (show 74 + (u.1 * 3 + (u.2 - 1)) < 106 by omega) (by decide), ?_⟩
      rw [nI_clamp (show 74 + (u.1 * 3 + (u.2 - 1)) < 2 ^ 31 by omega)]
      conv => whnf
      rw [Int32.add_sub_cancel]
      have o6 : zOff (r + 1) (r + 2) h5 (zupd h5 (r + 1) (.inl (0, 106, .inl (upd f (74 + (u.1 * 3 + (u.2 - 1))) (d + 1))))) := zOff.up (Nat.le_refl _) (by omega)
      have H6 : zRr (zupd h5 (r + 1) (.inl (0, 106, .inl (upd f (74 + (u.1 * 3 + (u.2 - 1))) (d + 1))))) r c5 (zba A.1, zd0 A.1, zd1 A.1, zus A.1, zpf A.1, zac A.1, upd (zch A.1) (u.1 * 3 + (u.2 - 1)) d) := ⟨(o6 r (by omega)).trans b1, _, zupd_s, b3.ch (by omega)⟩
      exact H1 _ ⟨c5, H5.put H6 o6, (e5 5 (by decide)).trans e4⟩ (((o3.tr (o4.wd (by omega) (by omega))).tr (fun a ha => o5 a (by omega) (by omega))).tr (o6.wd (by omega) (by omega)))
    · have e1 : zcC p d A.1 = (2, A.1, 0) := by
        unfold zcC
        rw [e]
        show (if d = -1 ∨ d = 0 ∨ d = 1 then _ else _) = _
        rw [if_neg]
        intro q
        rcases q with q | q | q
        · rw [q] at z; exact z.elim (fun y => absurd y (by decide)) (fun y => absurd y (by decide))
        · rw [q] at z; exact z.elim (fun y => absurd y (by decide)) (fun y => absurd y (by decide))
        · rw [q] at z; exact z.elim (fun y => absurd y (by decide)) (fun y => absurd y (by decide))
      rw [e1] at H1
      conv => whnf
      refine ⟨fun _ => ?_, fun z => absurd rfl z⟩
      conv => whnf
      refine ⟨_, H3.ob, ?_⟩
      refine S_yref2 hC H3 (k := 2) (by decide) (fun _ h4 c4 H4 e4 o4 => ?_) (fun z => absurd z (by decide))
      conv => whnf
      refine ⟨fun z => absurd z (by decide), fun _ => ?_⟩
      conv => whnf
      exact H1 h4 ⟨c4, H4, e4⟩ (o3.tr (o4.wd (by omega) (by omega)))
  · have e1 : zcC p d A.1 = (1, A.1, 0) := by
      unfold zcC
      rw [e]
    rw [e1] at H1
    conv => whnf
    refine ⟨fun z => absurd rfl z, fun _ => ?_⟩
    conv => whnf
    refine ⟨_, H3.ob, ?_⟩
    refine S_yref2 hC H3 (k := 1) (by decide) (fun _ h4 c4 H4 e4 o4 => ?_) (fun z => absurd z (by decide))
    conv => whnf
    refine ⟨fun z => absurd z (by decide), fun _ => ?_⟩
    conv => whnf
    exact H1 h4 ⟨c4, H4, e4⟩ (o3.tr (o4.wd (by omega) (by omega)))

