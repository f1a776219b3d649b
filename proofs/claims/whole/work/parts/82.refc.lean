/-! The reference: what a draft does -/
theorem zco_lt {L : zB} (h : ∀ v ∈ L, v.1 < 1000 ∧ v.2 < 1000) {x y : Nat} (e : zco L x = some y) : y < 1000 := by
  rcases zix_cs L x with ⟨j, v, -, a2, -, -, a5, a6⟩ | ⟨-, -, a5, a6⟩
  · have e2 : v.2 = y := Option.some.inj (a5.symm.trans e)
    rw [← e2]
    exact (h v (List.mem_of_getElem? a2)).2
  · rw [a5] at e
    exact nomatch e
/-- the rows of what the drafts keep -/
def zYk1 (h : zH) (r : Nat) (σ : zS) (d : Nat) : Prop := ∃ kf : Nat → Int32, h (r + 4) = .inl (1, 20, .inl kf) ∧ ∀ i, i < 10 → kf (10 * d + i) = if i ∈ zkept (zba σ).length (zdr σ d) then 1 else 0
theorem zcx_no {σ : zS} {d i : Nat} (e : zco (zdr σ d) i = none) : zcx σ d i = 4 := by
  unfold zcx zchc
  rw [e]
theorem zcx_at {σ : zS} {d i y : Nat} (e : zco (zdr σ d) i = some y) : zcx σ d i = (if y = zbc (zba σ) i then 0 else 1) + (if i ∈ zkept (zba σ).length (zdr σ d) then 0 else 2) := by
  unfold zcx zchc
  rw [e]
theorem zcx_mv {σ : zS} {d i y : Nat} (e : zco (zdr σ d) i = some y) : zmv (zcx σ d i) = true ↔ i ∉ zkept (zba σ).length (zdr σ d) := by
  rw [zcx_at e]
  by_cases c1 : i ∈ zkept (zba σ).length (zdr σ d)
  · rw [if_pos c1]
    by_cases c2 : y = zbc (zba σ) i
    · rw [if_pos c2]
      exact ⟨fun z => absurd z (by decide), fun z => absurd c1 z⟩
    · rw [if_neg c2]
      exact ⟨fun z => absurd z (by decide), fun z => absurd c1 z⟩
  · rw [if_neg c1]
    by_cases c2 : y = zbc (zba σ) i
    · rw [if_pos c2]
      exact ⟨fun _ => c1, fun _ => by decide⟩
    · rw [if_neg c2]
      exact ⟨fun _ => c1, fun _ => by decide⟩
set_option maxRecDepth 100000 in
theorem S_X7_doesMove {C : zK} (hC : zCld 215 zTT C) {h : zH} {n : Nat} {K : zQ} {r d x : Nat} {c : Nat → Int32} {σ : zS} (H : zRr h r c σ) (Hk : zYk1 h r σ d) (hd : d < 2) (hx : x < (zba σ).length) (H1 : zmv (zcx σ d x) = true → K 0 (some (.int 1)) h n) (H0 : ¬ zmv (zcx σ d x) = true → K 0 (some (.int 0)) h n) : C 154 [.ref r, .int (nI d), .int (nI x)] h n K := by
  have hob := H.ob
  have hnb := H.bs
  obtain ⟨kf, k1, k2⟩ := Hk
  refine zd_X7_doesMove hC rfl fun P hgo hF => ?_
  refine hgo [] 30 _ _ _ _ _ _ _ ?_
  conv => whnf
  refine ⟨_, hob, ?_⟩
  refine S_X7_has hC H hd (by omega) (fun y e => ?_) (fun e => ?_)
  · conv => whnf
    refine ⟨fun z => absurd z (by decide), fun _ => ?_⟩
    conv => whnf
    refine ⟨_, hob, _, rfl, ?_⟩
    conv => whnf
    rw [show (10 : Int32) * nI d + nI x = nI (10 * d + x) by rw [show (10 : Int32) = nI 10 by decide, pk_mul, nI_add]]
    refine ⟨_, _, k1, vp_in_nI (show 10 * d + x < 20 by omega) (by decide), ?_⟩
    rw [nI_clamp (show 10 * d + x < 2 ^ 31 by omega), k2 x (by omega)]
    conv => whnf
    refine ⟨fun q => ?_, fun q => ?_⟩
    · conv => whnf
      refine ⟨Or.inl rfl, H0 fun z => ?_⟩
      rw [if_neg ((zcx_mv e).mp z)] at q
      exact q rfl
    · conv => whnf
      refine ⟨Or.inr rfl, H1 ((zcx_mv e).mpr fun z => ?_)⟩
      rw [if_pos z] at q
      exact absurd q (by decide)
  · conv => whnf
    refine ⟨fun _ => ?_, fun z => absurd rfl z⟩
    conv => whnf
    refine ⟨Or.inl rfl, H0 fun z => ?_⟩
    rw [zcx_no e] at z
    exact absurd z (by decide)
set_option maxRecDepth 100000 in
theorem S_X7_changeOf {C : zK} (hC : zCld 215 zTT C) {h : zH} {n : Nat} {K : zQ} {r d x : Nat} {c : Nat → Int32} {σ : zS} (H : zRr h r c σ) (Hk : zYk1 h r σ d) (hd : d < 2) (hx : x < (zba σ).length) (H1 : K 0 (some (.int (nI (zcx σ d x)))) h n) : C 155 [.ref r, .int (nI d), .int (nI x)] h n K := by
  have hob := H.ob
  have hnb := H.bs
  refine zd_X7_changeOf hC rfl fun P hgo hF => ?_
  refine hgo [] 30 _ _ _ _ _ _ _ ?_
  conv => whnf
  refine ⟨_, hob, ?_⟩
  refine S_X7_has hC H hd (by omega) (fun y e => ?_) (fun e => ?_)
  · have e4 := zcx_at e
    have e5 := zcx_mv e
    conv => whnf
    refine ⟨fun _ => ?_, fun z => absurd z (by decide)⟩
    conv => whnf
    refine ⟨_, hob, ?_⟩
    refine S_X7_doesEdit hC H hd hx (fun e2 => ?_) (fun e2 => ?_)
    · obtain ⟨y', f1, f2⟩ := zed_cx.mp e2
      have ey : y = y' := Option.some.inj (e.symm.trans f1)
      rw [← ey] at f2
      rw [if_neg f2] at e4
      conv => whnf
      refine ⟨fun z => absurd z (by decide), fun _ => ?_⟩
      conv => whnf
      refine ⟨_, hob, ?_⟩
      refine S_X7_doesMove hC H Hk hd hx (fun e3 => ?_) (fun e3 => ?_)
      · rw [if_neg (e5.mp e3)] at e4
        rw [e4] at H1
        conv => whnf
        refine ⟨fun z => absurd z (by decide), fun _ => ?_⟩
        conv => whnf
        exact H1
      · rw [if_pos (Classical.byContradiction fun z => e3 (e5.mpr z))] at e4
        rw [e4] at H1
        conv => whnf
        refine ⟨fun _ => ?_, fun z => absurd rfl z⟩
        conv => whnf
        exact H1
    · have f2 : y = zbc (zba σ) x := Classical.byContradiction fun z => e2 (zed_cx.mpr ⟨y, e, z⟩)
      rw [if_pos f2] at e4
      conv => whnf
      refine ⟨fun _ => ?_, fun z => absurd rfl z⟩
      conv => whnf
      refine ⟨_, hob, ?_⟩
      refine S_X7_doesMove hC H Hk hd hx (fun e3 => ?_) (fun e3 => ?_)
      · rw [if_neg (e5.mp e3)] at e4
        rw [e4] at H1
        conv => whnf
        refine ⟨fun z => absurd z (by decide), fun _ => ?_⟩
        conv => whnf
        exact H1
      · rw [if_pos (Classical.byContradiction fun z => e3 (e5.mpr z))] at e4
        rw [e4] at H1
        conv => whnf
        refine ⟨fun _ => ?_, fun z => absurd rfl z⟩
        conv => whnf
        exact H1
  · rw [zcx_no e] at H1
    conv => whnf
    refine ⟨fun z => absurd rfl z, fun _ => ?_⟩
    conv => whnf
    exact H1
/-- other rows of the reference have changed, and plain fields -/
theorem zYc.sc {h h' : zH} {r : Nat} {c c' : Nat → Int32} {A : zA} (H : zYc h r c A) (e0 : h' r = zRO r c') (e2 : c' 2 = c 2) (e4 : c' 4 = c 4) (e1 : ∀ a, r < a → a < r + 4 → h' a = h a) (s : zYs h' r) : zYc h' r c' A := by
  obtain ⟨⟨a1, f, a2, a3⟩, ⟨bf, b1, b2⟩, ⟨tf, t1, t2⟩, -, f2, f4⟩ := H
  exact ⟨⟨e0, f, (e1 _ (by omega) (by omega)).trans a2, a3⟩, ⟨bf, (e1 _ (by omega) (by omega)).trans b1, b2⟩, ⟨tf, (e1 _ (by omega) (by omega)).trans t1, t2⟩, s, e2.trans f2, e4.trans f4⟩
set_option maxRecDepth 100000 in
theorem S_ykeeps {C : zK} (hC : zCld 215 zTT C) {h : zH} {n : Nat} {K : zQ} {r d : Nat} {c : Nat → Int32} {A : zA} (H : zYc h r c A) (hd : d < 2) (H1 : ∀ h', zYc h' r c A → zYk1 h' r A.1 d → zOff (r + 4) (r + 12) h h' → (∀ i, d = 1 → zYk1 h r A.1 i → i = 0 → zYk1 h' r A.1 i) → K 0 none h' n) : C 153 [.ref r, .int (nI d)] h n K := by
  obtain ⟨-, -, -, ⟨⟨f1, s1⟩, s2, s3, s4, s5, s6, s7, ⟨f8, s8⟩⟩, -, -⟩ := id H
  refine S_X7_keeps hC H.1 hd s1 s8 (fun h' kf lf g1 g2 g3 g4 g5 => ?_)
  have ho : zOff (r + 4) (r + 12) h h' := fun a ha => g5 a (by omega) (by omega)
  refine H1 h' (H.sc ((g5 _ (by omega) (by omega)).trans H.ob) rfl rfl (fun a h1 h2 => g5 a (by omega) (by omega)) ⟨⟨_, g1⟩, ?_, ?_, ?_, ?_, ?_, ?_, ⟨_, g2⟩⟩) ⟨kf, g1, g3⟩ ho (fun i z1 z2 z3 => ?_)
  · rw [g5 _ (by omega) (by omega)]; exact s2
  · rw [g5 _ (by omega) (by omega)]; exact s3
  · rw [g5 _ (by omega) (by omega)]; exact s4
  · rw [g5 _ (by omega) (by omega)]; exact s5
  · rw [g5 _ (by omega) (by omega)]; exact s6
  · rw [g5 _ (by omega) (by omega)]; exact s7
  · obtain ⟨kf0, k1, k2⟩ := z2
    refine ⟨kf, g1, fun j hj => ?_⟩
    rw [g4 (10 * i + j) (by omega)]
    have e : kf0 = f1 := by
      have := k1.symm.trans s1
      injection this with this
      injection this with _ this
      injection this with _ this
      injection this
    rw [← e]
    exact k2 j hj
set_option maxRecDepth 100000 in
theorem S_X7_change {C : zK} (hC : zCld 215 zTT C) {h : zH} {n : Nat} {K : zQ} {r th : Nat} {A : zA} (H : zY h r A th) {d b : Int32} (H1 : ∀ h', zY h' r A (zgk (zgC d b A.1)) → zOff r (r + 12) h h' → K 0 (some (.int (zgv (zgC d b A.1)))) h' n) : C 156 [.ref r, .int d, .int b] h n K := by
  obtain ⟨c, H, -⟩ := H
  have hnb := H.1.bs
  unfold zgC at H1
  refine zd_X7_change hC rfl fun P hgo hF => ?_
  refine hgo [] 60 _ _ _ _ _ _ _ ?_
  conv => whnf
  refine S_X7_isDraft hC (fun d' e => ?_) (fun e => ?_)
  · obtain ⟨a1, a2⟩ := zps_some e
    obtain ⟨b1, f, b2, b3⟩ := id H.1
    conv => whnf
    refine ⟨fun z => absurd z (by decide), fun _ => ?_⟩
    conv => whnf
    refine ⟨_, b1, _, rfl, ?_⟩
    conv => whnf
    refine ⟨_, _, b2, vp_in_nI (n := 0) (by omega) (by decide), ?_⟩
    rw [show (0 : Int32).toNatClampNeg = 0 by decide, b3.1]
    conv => whnf
    refine S_inN hC (N := (zba A.1).length) (by omega) (zlt_pred (by omega)) (fun i e2 => ?_) (fun e2 => ?_)
    · obtain ⟨a3, a4⟩ := zps_some e2
      simp only [e, e2] at H1
      conv => whnf
      refine ⟨fun z => absurd z (by decide), fun _ => ?_⟩
      conv => whnf
      refine ⟨_, b1, ?_⟩
      refine S_yref hC H (k := 0) (by decide) (fun z => absurd z (by decide)) (fun _ h2 c2 H2 e2 o2 => ?_)
      conv => whnf
      refine ⟨fun _ => ?_, fun z => absurd rfl z⟩
      conv => whnf
      refine ⟨_, H2.ob, ?_⟩
      rw [a1]
      refine S_ykeeps hC H2 a2 (fun h3 H3 k3 o3 _ => ?_)
      conv => whnf
      refine ⟨_, H3.ob, ?_⟩
      rw [a3]
      refine S_X7_changeOf hC H3.1 k3 a2 a4 ?_
      conv => whnf
      exact H1 h3 ⟨c2, H3, e2⟩ ((o2.wd (by omega) (by omega)).tr (o3.wd (by omega) (by omega)))
    · simp only [e, e2] at H1
      conv => whnf
      refine ⟨fun _ => ?_, fun z => absurd rfl z⟩
      conv => whnf
      refine ⟨_, b1, ?_⟩
      refine S_yref hC H (k := 1) (by decide) (fun _ h2 c2 H2 e2 o2 => ?_) (fun z => absurd z (by decide))
      conv => whnf
      refine ⟨fun z => absurd z (by decide), fun _ => ?_⟩
      conv => whnf
      exact H1 h2 ⟨c2, H2, e2⟩ (o2.wd (by omega) (by omega))
  · simp only [e] at H1
    conv => whnf
    refine ⟨fun _ => ?_, fun z => absurd rfl z⟩
    conv => whnf
    refine ⟨_, H.ob, ?_⟩
    refine S_yref hC H (k := 1) (by decide) (fun _ h2 c2 H2 e2 o2 => ?_) (fun z => absurd z (by decide))
    conv => whnf
    refine ⟨fun z => absurd z (by decide), fun _ => ?_⟩
    conv => whnf
    exact H1 h2 ⟨c2, H2, e2⟩ (o2.wd (by omega) (by omega))
set_option maxRecDepth 100000 in
theorem S_X7_moves {C : zK} (hC : zCld 215 zTT C) {h : zH} {n : Nat} {K : zQ} {r th : Nat} {A : zA} (H : zY h r A th) {d : Int32} (H1 : ∀ h', zY h' r A (zgk (zgV d A.1)) → zOff r (r + 12) h h' → K 0 (some (.int (zgv (zgV d A.1)))) h' n) : C 157 [.ref r, .int d] h n K := by
  obtain ⟨c, H, -⟩ := H
  have hnb := H.1.bs
  unfold zgV at H1
  refine zd_X7_moves hC rfl fun P hgo hF => ?_
  refine hgo [30] 60 _ _ _ _ _ _ _ ?_
  conv => whnf
  refine S_X7_isDraft hC (fun d' e => ?_) (fun e => ?_)
  · obtain ⟨a1, a2⟩ := zps_some e
    rw [e] at H1
    conv => whnf
    refine ⟨fun z => absurd z (by decide), fun _ => ?_⟩
    conv => whnf
    refine ⟨_, H.ob, ?_⟩
    refine S_yref hC H (k := 0) (by decide) (fun z => absurd z (by decide)) (fun _ h2 c2 H2 e2 o2 => ?_)
    conv => whnf
    refine ⟨fun _ => ?_, fun z => absurd rfl z⟩
    conv => whnf
    refine ⟨_, H2.ob, ?_⟩
    rw [a1]
    refine S_ykeeps hC H2 a2 (fun h3 H3 k3 o3 _ => ?_)
    obtain ⟨b1, f, b2, b3⟩ := id H3.1
    have G : K 0 (some (.int (nI (zcm (zba A.1).length (zcx A.1 d'))))) h3 n := H1 h3 ⟨c2, H3, e2⟩ ((o2.wd (by omega) (by omega)).tr (o3.wd (by omega) (by omega)))
    have loop : ∀ e k, k + e = (zba A.1).length → P 30 [some (.ref r), some (.int (nI d')), some (.int (nI (zcm k (zcx A.1 d')))), some (.int (nI k))] [] h3 n 0 0 := by
      intro e
      induction e with
      | zero =>
        intro k hk
        rw [show k = (zba A.1).length by omega]
        refine hgo [30] 60 _ _ _ _ _ _ _ ?_
        conv => whnf
        refine ⟨_, b1, _, rfl, ?_⟩
        conv => whnf
        refine ⟨_, _, b2, vp_in_nI (n := 0) (by omega) (by decide), ?_⟩
        rw [show (0 : Int32).toNatClampNeg = 0 by decide, b3.1]
        conv => whnf
        refine ⟨fun _ => ?_, fun q => absurd (nI_le (Nat.le_refl _) (by omega)) q⟩
        conv => whnf
        exact G
      | succ e ih =>
        intro k hk
        have k9 := ih (k + 1) (by omega)
        rw [zcm_s, ← zinc (j := k)] at k9
        refine hgo [30] 60 _ _ _ _ _ _ _ ?_
        conv => whnf
        refine ⟨_, b1, _, rfl, ?_⟩
        conv => whnf
        refine ⟨_, _, b2, vp_in_nI (n := 0) (by omega) (by decide), ?_⟩
        rw [show (0 : Int32).toNatClampNeg = 0 by decide, b3.1]
        conv => whnf
        refine ⟨fun q => absurd q (nI_ge (show k < (zba A.1).length by omega) (by omega)), fun _ => ?_⟩
        conv => whnf
        refine ⟨_, b1, ?_⟩
        refine S_X7_doesMove hC H3.1 k3 a2 (by omega) (fun e3 => ?_) (fun e3 => ?_)
        · rw [if_pos e3] at k9
          conv => whnf
          refine ⟨fun z => absurd z (by decide), fun _ => ?_⟩
          conv => whnf
          rw [nI_1]
          exact k9
        · rw [if_neg e3] at k9
          conv => whnf
          refine ⟨fun _ => ?_, fun z => absurd rfl z⟩
          conv => whnf
          rw [Int32.add_zero]
          exact k9
    conv => whnf
    exact loop (zba A.1).length 0 (by omega)
  · rw [e] at H1
    conv => whnf
    refine ⟨fun _ => ?_, fun z => absurd rfl z⟩
    conv => whnf
    refine ⟨_, H.ob, ?_⟩
    refine S_yref hC H (k := 1) (by decide) (fun _ h2 c2 H2 e2 o2 => ?_) (fun z => absurd z (by decide))
    conv => whnf
    refine ⟨fun z => absurd z (by decide), fun _ => ?_⟩
    conv => whnf
    exact H1 h2 ⟨c2, H2, e2⟩ (o2.wd (by omega) (by omega))

