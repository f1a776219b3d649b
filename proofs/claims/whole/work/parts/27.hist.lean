/-! History -/
def zHis (h : zH) (t nx : Nat) (Sv : List zS) : Prop := h t = .inr (3, [.ref (t + 1), .int (nI nx), .int (nI Sv.length)]) ∧ (∃ rf : Nat → Option Nat, h (t + 1) = .inl (4, 6, .inr (.inr (.inr (.inr rf)))) ∧ ∀ i, i < 6 → rf i = some (t + 2 + 11 * i)) ∧ nx < 6 ∧ Sv.length ≤ 6 ∧ (∀ i, i < 6 → zShp h (t + 2 + 11 * i)) ∧ ∀ j σ, Sv[j]? = some σ → zSta h (t + 2 + 11 * ((nx + 5 - j) % 6)) σ
theorem zHis.off {lo hi t nx : Nat} {Sv : List zS} {h h' : zH} (H : zHis h t nx Sv) (ho : zOff lo hi h h') (hd : t + 68 ≤ lo ∨ hi ≤ t) : zHis h' t nx Sv := by
  obtain ⟨h1, ⟨rf, h2, h3⟩, h4, h5, h6, h7⟩ := H
  exact ⟨(ho _ (by omega)).trans h1, ⟨rf, (ho _ (by omega)).trans h2, h3⟩, h4, h5, fun i hi => (h6 i hi).off ho (by omega), fun j σ hj => (h7 j σ hj).off ho (by omega)⟩
set_option maxRecDepth 100000 in
theorem S_X3_slot {C : zK} (hC : zCld 215 zTT C) {h : zH} {n : Nat} {K : zQ} {t nx : Nat} {Sv : List zS} (H : zHis h t nx Sv) {i : Nat} (hi : i < 6) (H1 : K 0 (some (.ref (t + 2 + 11 * i))) h n) : C 45 [.ref t, .int (nI i)] h n K := by
  obtain ⟨h1, ⟨rf, h2, h3⟩, h4, h5, h6, h7⟩ := id H
  refine zd_X3_slot hC rfl fun P hgo hF => ?_
  refine hgo [] 30 _ _ _ _ _ _ _ ?_
  conv => whnf
  refine ⟨fun q => absurd q (nI_pos (show i < 2 ^ 31 by omega)), fun _ => ?_⟩
  conv => whnf
  repeat (first
    | (refine ⟨_, by assumption, _, rfl, ?_⟩; conv => whnf)
    | (refine ⟨_, _, by assumption, Nat.le_of_ble_eq_true rfl, ?_⟩; conv => whnf)
    | (refine ⟨_, by assumption, Nat.le_of_ble_eq_true rfl, ⟨rfl, rfl⟩, ?_⟩; conv => whnf)
    | (refine ⟨_, by assumption, ?_⟩; conv => whnf))
  refine ⟨fun q => absurd q (show ¬ nI 6 ≤ nI i from nI_ge hi (by decide)), fun _ => ?_⟩
  conv => whnf
  refine ⟨_, h1, _, rfl, ?_⟩
  conv => whnf
  refine ⟨_, _, h2, vp_in_nI hi (by decide), ?_⟩
  rw [nI_clamp (show i < 2 ^ 31 by omega), h3 i hi]
  conv => whnf
  exact H1
set_option maxRecDepth 100000 in
theorem S_X3_copy {C : zK} (hC : zCld 215 zTT C) {h : zH} {n : Nat} {K : zQ} {s t : Nat} {σ : zS} (Hs : zShp h s) (H : zSta h t σ) (hd : s + 11 ≤ t ∨ t + 11 ≤ s) (H1 : ∀ h', zSta h' s σ → zOff s (s + 11) h h' → K 0 none h' n) : C 46 [.ref t, .ref s] h n K := by
  obtain ⟨⟨u, p, a, h1⟩, -⟩ := id Hs
  obtain ⟨-, ⟨-, -, -, -, -, l2, -⟩, ⟨-, -, -, -, -, l3, -⟩, ⟨-, -, -, -, -, l4, -⟩, -⟩ := id H
  refine zd_X3_copy hC rfl fun P hgo hF => ?_
  refine hgo [] 30 _ _ _ _ _ _ _ ?_
  conv => whnf
  refine ⟨_, h1, ?_⟩
  conv => whnf
  refine S_X5_copyFrom hC Hs H ⟨l2, l3, l4⟩ hd fun h' H' ho' => ?_
  conv => whnf
  exact H1 h' H' ho'
set_option maxRecDepth 100000 in
theorem S_X3_keep {C : zK} (hC : zCld 215 zTT C) {h : zH} {n : Nat} {K : zQ} {s t nx : Nat} {σ : zS} {Sv : List zS} (H : zHis h t nx Sv) (Hs : zSta h s σ) (hd : s + 11 ≤ t ∨ t + 68 ≤ s) (H1 : ∀ h' nx', zHis h' t nx' ((σ :: Sv).take 6) → zOff t (t + 68) h h' → K 0 none h' n) : C 43 [.ref t, .ref s] h n K := by
  obtain ⟨h1, ⟨rf, h2, h3⟩, h4, h5, h6, h7⟩ := id H
  refine zd_X3_keep hC rfl fun P hgo hF => ?_
  refine hgo [37] 60 _ _ _ _ _ _ _ ?_
  conv => whnf
  refine ⟨_, h1, _, rfl, ?_⟩
  conv => whnf
  refine ⟨_, h1, ?_⟩
  conv => whnf
  refine S_X3_slot hC H h4 ?_
  conv => whnf
  refine S_X3_copy hC (h6 nx h4) Hs (by omega) fun h2' H2 ho2 => ?_
  have a1 := (ho2 t (by omega)).trans h1
  have a2 := (ho2 (t + 1) (by omega)).trans h2
  have fin : ∀ (h3' : zH) (nx' : Nat), nx' = (nx + 1) % 6 → zOff t (t + 1) h2' h3' → h3' t = .inr (3, [.ref (t + 1), .int (nI nx'), .int (nI ((σ :: Sv).take 6).length)]) → K 0 none h3' n := by
    intro h3' nx' hnx ho3 e3
    refine H1 h3' nx' ⟨e3, ⟨rf, (ho3 _ (by omega)).trans a2, h3⟩, by omega, by rw [List.length_take]; omega, fun i hi => ?_, fun j τ hj => ?_⟩ ((ho2.wd (by omega) (by omega)).tr (ho3.wd (by omega) (by omega)))
    · by_cases c1 : i = nx
      · rw [c1]; exact H2.shp.off ho3 (by omega)
      · exact ((h6 i hi).off ho2 (by omega)).off ho3 (by omega)
    · have hjl := (List.getElem?_eq_some_iff.mp hj).1
      rw [List.length_take] at hjl
      rw [List.getElem?_take_of_lt (by omega)] at hj
      cases j with
      | zero =>
        cases hj
        rw [show (nx' + 5 - 0) % 6 = nx by omega]
        exact H2.off ho3 (by omega)
      | succ j =>
        have h8 := h7 j τ hj
        rw [show (nx + 5 - j) % 6 = (nx' + 5 - (j + 1)) % 6 by omega] at h8
        exact (h8.off ho2 (by omega)).off ho3 (by omega)
  have hlen : ((σ :: Sv).take 6).length = if Sv.length < 6 then Sv.length + 1 else Sv.length := by
    rw [List.length_take, List.length_cons]
    by_cases c1 : Sv.length < 6
    · rw [if_pos c1]; omega
    · rw [if_neg c1]; omega
  have part2 : ∀ (c : Int32) (nx' : Nat), c = nI nx' → nx' = (nx + 1) % 6 → ∀ h3', zOff t (t + 1) h2' h3' → h3' t = .inr (3, [.ref (t + 1), .int c, .int (nI Sv.length)]) → P 37 [some (.ref t), some (.ref s)] [] h3' n 0 0 := by
    intro c nx' hc hnx h3' ho3 e3
    refine hgo [] 60 _ _ _ _ _ _ _ ?_
    conv => whnf
    refine ⟨_, e3, _, rfl, ?_⟩
    conv => whnf
    refine ⟨fun q => ?_, fun q => ?_⟩
    · have hl : ¬ Sv.length < 6 := fun z => nI_ge z (by decide) q
      conv => whnf
      refine ⟨_, e3, _, rfl, ?_⟩
      conv => whnf
      refine ⟨_, e3, Nat.le_of_ble_eq_true rfl, ⟨rfl, rfl⟩, ?_⟩
      conv => whnf
      rw [if_neg hl] at hlen
      exact fin _ nx' hnx (ho3.tr (zOff.up (Nat.le_refl t) (by omega))) (by rw [hlen, ← hc]; exact zupd_s)
    · have hl : Sv.length < 6 := by
        rcases Nat.lt_or_ge Sv.length 6 with z | z
        · exact z
        · exact absurd (show nI 6 ≤ nI Sv.length from nI_le z (by omega)) q
      conv => whnf
      refine ⟨_, e3, _, rfl, ?_⟩
      conv => whnf
      refine ⟨_, e3, Nat.le_of_ble_eq_true rfl, ⟨rfl, rfl⟩, ?_⟩
      conv => whnf
      rw [if_pos hl] at hlen
      exact fin _ nx' hnx (ho3.tr (zOff.up (Nat.le_refl t) (by omega))) (by rw [hlen, ← hc, ← nI_1 Sv.length]; exact zupd_s)
  conv => whnf
  refine ⟨_, a1, _, rfl, ?_⟩
  conv => whnf
  refine ⟨fun q => ?_, fun q => ?_⟩
  · have hl : ¬ nx + 1 < 6 := fun z => nI_ge z (by decide) (show nI 6 ≤ nI (nx + 1) by rw [← nI_1 nx]; exact q)
    conv => whnf
    refine ⟨_, a1, Nat.le_of_ble_eq_true rfl, ⟨rfl, rfl⟩, ?_⟩
    conv => whnf
    exact part2 0 0 rfl (by omega) _ (zOff.up (Nat.le_refl t) (by omega)) zupd_s
  · have hl : nx + 1 < 6 := by
      rcases Nat.lt_or_ge (nx + 1) 6 with z | z
      · exact z
      · exact absurd (show nI 6 ≤ nI nx + 1 by rw [nI_1 nx]; exact nI_le z (by omega)) q
    conv => whnf
    refine ⟨_, a1, _, rfl, ?_⟩
    conv => whnf
    refine ⟨_, a1, Nat.le_of_ble_eq_true rfl, ⟨rfl, rfl⟩, ?_⟩
    conv => whnf
    exact part2 _ (nx + 1) (nI_1 nx) (by omega) _ (zOff.up (Nat.le_refl t) (by omega)) zupd_s
set_option maxRecDepth 100000 in
theorem S_X3_restoreLast {C : zK} (hC : zCld 215 zTT C) {h : zH} {n : Nat} {K : zQ} {s t nx : Nat} {σ : zS} {Sv : List zS} (H : zHis h t nx (σ :: Sv)) (Hs : zShp h s) (hd : s + 11 ≤ t ∨ t + 68 ≤ s) (H1 : ∀ h' nx', zHis h' t nx' Sv → zSta h' s σ → (∀ a, ¬ (a = t) → (a < s ∨ s + 11 ≤ a) → h' a = h a) → K 0 (some (.int (nI Sv.length))) h' n) : C 44 [.ref t, .ref s] h n K := by
  obtain ⟨h1, ⟨rf, h2, h3⟩, h4, h5, h6, h7⟩ := id H
  refine zd_X3_restoreLast hC rfl fun P hgo hF => ?_
  have part3 : ∀ (nx' : Nat), nx' = (nx + 5) % 6 → ∀ h3', zOff t (t + 1) h h3' → h3' t = .inr (3, [.ref (t + 1), .int (nI nx'), .int (nI Sv.length)]) → P 42 [some (.ref t), some (.ref s)] [] h3' n 0 0 := by
    intro nx' hnx h3' ho3 e3
    have H3 : zHis h3' t nx' Sv := ⟨e3, ⟨rf, (ho3 _ (by omega)).trans h2, h3⟩, by omega, by have : (σ :: Sv).length ≤ 6 := h5; rw [List.length_cons] at this; omega, fun i hi => (h6 i hi).off ho3 (by omega), fun j τ hj => by
      have h8 := h7 (j + 1) τ hj
      have hjl := (List.getElem?_eq_some_iff.mp hj).1
      have h9 : (σ :: Sv).length ≤ 6 := h5
      rw [List.length_cons] at h9
      rw [show (nx + 5 - (j + 1)) % 6 = (nx' + 5 - j) % 6 by omega] at h8
      exact h8.off ho3 (by omega)⟩
    have hσ := (h7 0 σ rfl).off ho3 (by omega)
    rw [show (nx + 5 - 0) % 6 = nx' by omega] at hσ
    refine hgo [] 60 _ _ _ _ _ _ _ ?_
    conv => whnf
    refine ⟨_, e3, _, rfl, ?_⟩
    conv => whnf
    refine ⟨_, e3, ?_⟩
    conv => whnf
    refine S_X3_slot hC H3 (by omega) ?_
    conv => whnf
    refine S_X3_copy hC (Hs.off ho3 (by omega)) hσ (by omega) fun h4' H4 ho4 => ?_
    conv => whnf
    refine ⟨_, (ho4 t (by omega)).trans e3, _, rfl, ?_⟩
    conv => whnf
    exact H1 h4' nx' (H3.off ho4 (by omega)) H4 (fun a ha1 ha2 => (ho4 a ha2).trans (ho3 a (by omega)))
  have part2 : ∀ (nx' : Nat), nx' = (nx + 5) % 6 → ∀ h3', zOff t (t + 1) h h3' → h3' t = .inr (3, [.ref (t + 1), .int (nI nx'), .int (nI (σ :: Sv).length)]) → P 21 [some (.ref t), some (.ref s)] [] h3' n 0 0 := by
    intro nx' hnx h3' ho3 e3
    refine hgo [42] 60 _ _ _ _ _ _ _ ?_
    conv => whnf
    refine ⟨_, e3, _, rfl, ?_⟩
    conv => whnf
    refine ⟨fun q => absurd q (nI_nle (by rw [List.length_cons]; omega) (by omega)), fun _ => ?_⟩
    conv => whnf
    refine ⟨_, e3, _, rfl, ?_⟩
    conv => whnf
    refine ⟨_, e3, Nat.le_of_ble_eq_true rfl, ⟨rfl, rfl⟩, ?_⟩
    conv => whnf
    rw [show nI (σ :: Sv).length - 1 = nI Sv.length from nI_pred _]
    exact part3 nx' hnx _ (ho3.tr (zOff.up (Nat.le_refl t) (by omega))) zupd_s
  refine hgo [21] 60 _ _ _ _ _ _ _ ?_
  conv => whnf
  refine ⟨_, h1, _, rfl, ?_⟩
  conv => whnf
  refine ⟨fun q => ?_, fun q => ?_⟩
  · have hl : nx = 0 := by
      rcases Nat.eq_zero_or_pos nx with z | z
      · exact z
      · exact absurd q (nI_nle z (by omega))
    conv => whnf
    refine ⟨_, h1, Nat.le_of_ble_eq_true rfl, ⟨rfl, rfl⟩, ?_⟩
    conv => whnf
    exact part2 5 (by omega) _ (zOff.up (Nat.le_refl t) (by omega)) zupd_s
  · have hl : 0 < nx := by
      rcases Nat.eq_zero_or_pos nx with z | z
      · exact absurd (by rw [z]; decide) q
      · exact z
    obtain ⟨m, hm⟩ : ∃ m, nx = m + 1 := ⟨nx - 1, by omega⟩
    conv => whnf
    refine ⟨_, h1, _, rfl, ?_⟩
    conv => whnf
    refine ⟨_, h1, Nat.le_of_ble_eq_true rfl, ⟨rfl, rfl⟩, ?_⟩
    conv => whnf
    rw [hm, nI_pred m]
    exact part2 m (by omega) _ (zOff.up (Nat.le_refl t) (by omega)) zupd_s

