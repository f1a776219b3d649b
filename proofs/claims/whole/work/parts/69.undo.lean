/-! The reference: undo -/
theorem zBf.pop {bf : Nat → Int32} {Sv : List zS} {σ : zS} (H : zBf bf (σ :: Sv)) : zBf bf Sv ∧ zRs (fun w => bf (106 * Sv.length + w)) σ := by
  refine ⟨fun j τ hj => ?_, ?_⟩
  · have hl := (List.getElem?_eq_some_iff.mp hj).1
    have := H (j + 1) τ hj
    refine this.cg fun w hw => ?_
    show bf (106 * (Sv.length - 1 - j) + w) = bf (106 * (Sv.length + 1 - 1 - (j + 1)) + w)
    rw [show Sv.length + 1 - 1 - (j + 1) = Sv.length - 1 - j by omega]
  · exact H 0 σ rfl
set_option maxRecDepth 100000 in
theorem S_X7_undo {C : zK} (hC : zCld 215 zTT C) {h : zH} {n : Nat} {K : zQ} {r th : Nat} {A : zA} (H : zY h r A th) (W : zwA A) (H1 : ∀ h', zY h' r (zoU A).2.1 (zoU A).1 → zOff r (r + 12) h h' → K 0 (some (.int (zoU A).2.2)) h' n) : C 190 [.ref r] h n K := by
  obtain ⟨c, H, -⟩ := H
  have hl := W.2.2.1
  have e2 : c 2 = nI A.2.1.length := H.2.2.2.2.1
  unfold zoU at H1
  refine zd_X7_undo hC rfl fun P hgo hF => ?_
  refine hgo [33] 40 _ _ _ _ _ _ _ ?_
  conv => whnf
  refine ⟨_, H.ob, _, rfl, ?_⟩
  conv => whnf
  rw [e2]
  cases e : A.2.1 with
  | nil =>
    rw [e] at H1
    refine ⟨fun z => absurd rfl z, fun _ => ?_⟩
    conv => whnf
    refine ⟨_, H.ob, ?_⟩
    refine S_yref hC H (k := 1) (by decide) (fun _ h2 c2 H2 e3 o2 => ?_) (fun z => absurd z (by decide))
    conv => whnf
    refine ⟨fun z => absurd z (by decide), fun _ => ?_⟩
    conv => whnf
    exact H1 h2 ⟨c2, H2, e3⟩ (o2.wd (by omega) (by omega))
  | cons σ Sv =>
    rw [e] at H1 hl
    have hl2 : Sv.length + 1 ≤ 6 := hl
    have hne : ¬ nI (σ :: Sv).length = 0 := nI_ne0 (show 0 < Sv.length + 1 by omega) (show Sv.length + 1 < 2 ^ 31 by omega)
    refine ⟨fun _ => ?_, fun z => absurd z hne⟩
    conv => whnf
    refine ⟨_, H.ob, ?_⟩
    refine S_yref hC H (k := 0) (by decide) (fun z => absurd z (by decide)) (fun _ h2 c2 H2 e3 o2 => ?_)
    obtain ⟨⟨q1, f, q2, q3⟩, ⟨bf, q4, q5⟩, ⟨tf, q6, q7⟩, q8, q9, q10⟩ := H2
    rw [e] at q5 q9
    obtain ⟨p1, p2⟩ := q5.pop
    conv => whnf
    refine ⟨fun _ => ?_, fun z => absurd rfl z⟩
    conv => whnf
    refine ⟨_, q1, _, rfl, ?_⟩
    conv => whnf
    refine ⟨_, q1, Nat.le_of_ble_eq_true rfl, ⟨rfl, rfl⟩, ?_⟩
    have e9 : c2 2 - 1 = nI Sv.length := by
      rw [q9]
      exact nI_pred Sv.length
    have loop : ∀ e k (g : zH) (f2 : Nat → Int32), k + e = 106 → g r = zRO r (upd c2 2 (c2 2 - 1)) → g (r + 1) = .inl (0, 106, .inl f2) → (∀ w, w < k → f2 w = bf (106 * Sv.length + w)) → (∀ a, a ≠ r → a ≠ r + 1 → g a = h2 a) → P 33 [some (.ref r), some (.int (nI k))] [] g n 0 0 := by
      intro e
      induction e with
      | zero =>
        intro k g f2 hk b1 b2 b4 b5
        have hk2 : k = 106 := by omega
        rw [hk2] at b4 ⊢
        refine hgo [33] 40 _ _ _ _ _ _ _ ?_
        conv => whnf
        refine ⟨fun _ => ?_, fun q => absurd (by decide) q⟩
        conv => whnf
        refine ⟨_, b1, _, rfl, ?_⟩
        conv => whnf
        have e7 : upd c2 2 (c2 2 - 1) 2 = nI Sv.length := by rw [upd_s, e9]
        have G := H1 g ⟨upd c2 2 (c2 2 - 1), ⟨⟨b1, f2, b2, p2.cg b4⟩, ⟨bf, (b5 _ (by omega) (by omega)).trans q4, p1⟩, ⟨tf, (b5 _ (by omega) (by omega)).trans q6, q7⟩, q8.eq (fun a h5 h6 => b5 a (by omega) (by omega)), e7, (upd_n (by decide)).trans q10⟩, (upd_n (by decide)).trans e3⟩ (fun a ha => (b5 a (by omega) (by omega)).trans (o2 a (by omega)))
        rw [e7]
        exact G
      | succ e ih =>
        intro k g f2 hk b1 b2 b4 b5
        have b3 : g (r + 2) = .inl (0, 636, .inl bf) := (b5 _ (by omega) (by omega)).trans q4
        have e7 : upd c2 2 (c2 2 - 1) 2 = nI Sv.length := by rw [upd_s, e9]
        generalize upd c2 2 (c2 2 - 1) = c3 at b1 e7 ih
        refine hgo [33] 40 _ _ _ _ _ _ _ ?_
        conv => whnf
        refine ⟨fun q => absurd q (nI_ge (show k < 106 by omega) (by decide)), fun _ => ?_⟩
        conv => whnf
        refine ⟨_, b1, _, rfl, ?_⟩
        conv => whnf
        refine ⟨_, b1, _, rfl, ?_⟩
        conv => whnf
        refine ⟨_, b1, _, rfl, ?_⟩
        conv => whnf
        rw [e7, show (106 : Int32) * nI Sv.length + nI k = nI (106 * Sv.length + k) by rw [show (106 : Int32) = nI 106 by decide, pk_mul, nI_add]]
        refine ⟨_, _, b3, vp_in_nI (by omega) (by decide), ?_⟩
        conv => whnf
        rw [nI_clamp (show 106 * Sv.length + k < 2 ^ 31 by omega)]
        refine ⟨_, _, b2, vp_in_nI (show k < 106 by omega) (by decide), ?_⟩
        rw [nI_clamp (show k < 2 ^ 31 by omega)]
        conv => whnf
        have k9 := ih (k + 1) (zupd g (r + 1) (.inl (0, 106, .inl (upd f2 k (bf (106 * Sv.length + k)))))) _ (by omega) ((zupd_n (by omega)).trans b1) zupd_s (fun w hw => by
          by_cases c1 : w = k
          · rw [c1, upd_s]
          · rw [upd_n c1]; exact b4 w (by omega)) (fun a h8 h9 => (zupd_n h9).trans (b5 a h8 h9))
        rw [← zinc (j := k)] at k9
        exact k9
    conv => whnf
    exact loop 106 0 (zupd h2 r (zRO r (upd c2 2 (c2 2 - 1)))) f (by omega) zupd_s ((zupd_n (by omega)).trans q2) (fun w hw => absurd hw (Nat.not_lt_zero _)) (fun a h8 h9 => zupd_n h8)

