/-! State -/
/-- base, two drafts, numbers used, preferred, accepted, choices -/
abbrev zS : Type := zB × zB × zB × Nat × Nat × Nat × (Nat → Int32)
def zba (σ : zS) : zB := σ.1
def zd0 (σ : zS) : zB := σ.2.1
def zd1 (σ : zS) : zB := σ.2.2.1
def zus (σ : zS) : Nat := σ.2.2.2.1
def zpf (σ : zS) : Nat := σ.2.2.2.2.1
def zac (σ : zS) : Nat := σ.2.2.2.2.2.1
def zch (σ : zS) : Nat → Int32 := σ.2.2.2.2.2.2
/-- a state lies at s, in eleven cells -/
def zSta (h : zH) (s : Nat) (σ : zS) : Prop := h s = .inr (5, [.ref (s + 1), .ref (s + 4), .ref (s + 7), .ref (s + 10), .int (nI (zus σ)), .int (nI (zpf σ)), .int (nI (zac σ))]) ∧ zBl h (s + 1) 10 (zba σ) ∧ zBl h (s + 4) 15 (zd0 σ) ∧ zBl h (s + 7) 15 (zd1 σ) ∧ (∃ cf : Nat → Int32, h (s + 10) = .inl (0, 30, .inl cf) ∧ ∀ i, i < 30 → cf i = zch σ i) ∧ zus σ ≤ 1000
/-- the cells of a state, whatever they hold -/
def zShp (h : zH) (s : Nat) : Prop := (∃ u p a : Int32, h s = .inr (5, [.ref (s + 1), .ref (s + 4), .ref (s + 7), .ref (s + 10), .int u, .int p, .int a])) ∧ (∃ c f g, zRaw h (s + 1) 10 c f g) ∧ (∃ c f g, zRaw h (s + 4) 15 c f g) ∧ (∃ c f g, zRaw h (s + 7) 15 c f g) ∧ ∃ cf : Nat → Int32, h (s + 10) = .inl (0, 30, .inl cf)
theorem zSta.shp {h : zH} {s : Nat} {σ : zS} (H : zSta h s σ) : zShp h s := by
  obtain ⟨h1, h2, h3, h4, ⟨cf, h5, -⟩, -⟩ := H
  obtain ⟨f2, g2, r2, -⟩ := h2.raw
  obtain ⟨f3, g3, r3, -⟩ := h3.raw
  obtain ⟨f4, g4, r4, -⟩ := h4.raw
  exact ⟨⟨_, _, _, h1⟩, ⟨_, _, _, r2⟩, ⟨_, _, _, r3⟩, ⟨_, _, _, r4⟩, ⟨cf, h5⟩⟩
theorem zSta.off {lo hi s : Nat} {σ : zS} {h h' : zH} (H : zSta h s σ) (ho : zOff lo hi h h') (hd : s + 11 ≤ lo ∨ hi ≤ s) : zSta h' s σ := by
  obtain ⟨h1, h2, h3, h4, ⟨cf, h5, h6⟩, h7⟩ := H
  exact ⟨(ho _ (by omega)).trans h1, h2.off ho (by omega), h3.off ho (by omega), h4.off ho (by omega), ⟨cf, (ho _ (by omega)).trans h5, h6⟩, h7⟩
theorem zShp.off {lo hi s : Nat} {h h' : zH} (H : zShp h s) (ho : zOff lo hi h h') (hd : s + 11 ≤ lo ∨ hi ≤ s) : zShp h' s := by
  obtain ⟨⟨u, p, a, h1⟩, ⟨c2, f2, g2, r2⟩, ⟨c3, f3, g3, r3⟩, ⟨c4, f4, g4, r4⟩, ⟨cf, h5⟩⟩ := H
  exact ⟨⟨u, p, a, (ho _ (by omega)).trans h1⟩, ⟨c2, f2, g2, r2.off ho (by omega)⟩, ⟨c3, f3, g3, r3.off ho (by omega)⟩, ⟨c4, f4, g4, r4.off ho (by omega)⟩, ⟨cf, (ho _ (by omega)).trans h5⟩⟩
def zda (s d : Nat) : Nat := if d = 0 then s + 4 else s + 7
def zdr (σ : zS) (d : Nat) : zB := if d = 0 then zd0 σ else zd1 σ
def zsd (σ : zS) (d : Nat) (L : zB) : zS := if d = 0 then (zba σ, L, zd1 σ, zus σ, zpf σ, zac σ, zch σ) else (zba σ, zd0 σ, L, zus σ, zpf σ, zac σ, zch σ)
theorem zSta.dr {h : zH} {s : Nat} {σ : zS} (H : zSta h s σ) {d : Nat} : zBl h (zda s d) 15 (zdr σ d) := by
  unfold zda zdr
  by_cases e : d = 0
  · rw [if_pos e, if_pos e]; exact H.2.2.1
  · rw [if_neg e, if_neg e]; exact H.2.2.2.1
theorem zda_in (s d : Nat) : s + 4 ≤ zda s d ∧ zda s d + 3 ≤ s + 10 := by
  unfold zda
  by_cases e : d = 0
  · rw [if_pos e]; omega
  · rw [if_neg e]; omega
/-- a draft has changed, nothing else has -/
theorem zSta.setd {h h' : zH} {s : Nat} {σ : zS} (H : zSta h s σ) {d : Nat} {L : zB} (hB : zBl h' (zda s d) 15 L) (ho : zOff (zda s d) (zda s d + 3) h h') : zSta h' s (zsd σ d L) := by
  obtain ⟨h1, h2, h3, h4, ⟨cf, h5, h6⟩, h7⟩ := H
  unfold zda at hB ho
  unfold zsd
  by_cases e : d = 0
  · rw [if_pos e] at hB ho ⊢
    exact ⟨(ho _ (by omega)).trans h1, h2.off ho (by omega), hB, h4.off ho (by omega), ⟨cf, (ho _ (by omega)).trans h5, h6⟩, h7⟩
  · rw [if_neg e] at hB ho ⊢
    exact ⟨(ho _ (by omega)).trans h1, h2.off ho (by omega), h3.off ho (by omega), hB, ⟨cf, (ho _ (by omega)).trans h5, h6⟩, h7⟩
set_option maxRecDepth 100000 in
theorem S_X5_draft {C : zK} (hC : zCld 215 zTT C) {h : zH} {n : Nat} {K : zQ} {s : Nat} {σ : zS} (H : zSta h s σ) {d : Nat} (hd : d < 2) (H1 : K 0 (some (.ref (zda s d))) h n) : C 63 [.ref s, .int (nI d)] h n K := by
  obtain ⟨h1, -⟩ := id H
  refine zd_X5_draft hC rfl fun P hgo hF => ?_
  rcases (by omega : d = 0 ∨ d = 1) with rfl | rfl
  · refine hgo [] 20 _ _ _ _ _ _ _ ?_
    conv => whnf
    refine ⟨fun q => absurd rfl q, fun _ => ?_⟩
    conv => whnf
    repeat (first
      | (refine ⟨_, by assumption, _, rfl, ?_⟩; conv => whnf)
      | (refine ⟨_, _, by assumption, Nat.le_of_ble_eq_true rfl, ?_⟩; conv => whnf)
      | (refine ⟨_, by assumption, Nat.le_of_ble_eq_true rfl, ⟨rfl, rfl⟩, ?_⟩; conv => whnf)
      | (refine ⟨_, by assumption, ?_⟩; conv => whnf))
    exact H1
  · refine hgo [] 20 _ _ _ _ _ _ _ ?_
    conv => whnf
    refine ⟨fun _ => ?_, fun q => absurd q (by decide)⟩
    conv => whnf
    repeat (first
      | (refine ⟨_, by assumption, _, rfl, ?_⟩; conv => whnf)
      | (refine ⟨_, _, by assumption, Nat.le_of_ble_eq_true rfl, ?_⟩; conv => whnf)
      | (refine ⟨_, by assumption, Nat.le_of_ble_eq_true rfl, ⟨rfl, rfl⟩, ?_⟩; conv => whnf)
      | (refine ⟨_, by assumption, ?_⟩; conv => whnf))
    exact H1
set_option maxRecDepth 100000 in
theorem S_X5_takeNumber {C : zK} (hC : zCld 215 zTT C) {h : zH} {n : Nat} {K : zQ} {s : Nat} {σ : zS} (H : zSta h s σ) (hu : zus σ < 1000) (H1 : ∀ h', zSta h' s (zba σ, zd0 σ, zd1 σ, zus σ + 1, zpf σ, zac σ, zch σ) → zOff s (s + 11) h h' → K 0 (some (.int (nI (zus σ)))) h' n) : C 67 [.ref s] h n K := by
  obtain ⟨h1, h2, h3, h4, ⟨cf, h5, h6⟩, h7⟩ := id H
  refine zd_X5_takeNumber hC rfl fun P hgo hF => ?_
  refine hgo [] 30 _ _ _ _ _ _ _ ?_
  conv => whnf
  refine ⟨_, h1, _, rfl, ?_⟩
  conv => whnf
  refine ⟨_, h1, _, rfl, ?_⟩
  conv => whnf
  refine ⟨_, h1, Nat.le_of_ble_eq_true rfl, ⟨rfl, rfl⟩, ?_⟩
  conv => whnf
  have ho : zOff s (s + 1) h (zupd h s (.inr (5, [.ref (s + 1), .ref (s + 4), .ref (s + 7), .ref (s + 10), .int (nI (zus σ) + 1), .int (nI (zpf σ)), .int (nI (zac σ))]))) := zOff.up (Nat.le_refl s) (by omega)
  exact H1 _ ⟨by rw [show nI (zus σ) + 1 = nI (zus σ + 1) from nI_1 _] at ho ⊢; exact zupd_s, h2.off ho (by omega), h3.off ho (by omega), h4.off ho (by omega), ⟨cf, (ho _ (by omega)).trans h5, h6⟩, (show zus σ + 1 ≤ 1000 by omega)⟩ (ho.wd (Nat.le_refl s) (by omega))
set_option maxRecDepth 100000 in
theorem S_X5_growBase {C : zK} (hC : zCld 215 zTT C) {h : zH} {n : Nat} {K : zQ} {s : Nat} {σ : zS} (H : zSta h s σ) (hu : zus σ < 1000) (hl : (zba σ).length < 10 ∧ (zd0 σ).length < 15 ∧ (zd1 σ).length < 15) {c : Nat} (hc : c < 1000) (H1 : ∀ h', zSta h' s (zba σ ++ [(zus σ, c)], zd0 σ ++ [(zus σ, c)], zd1 σ ++ [(zus σ, c)], zus σ + 1, zpf σ, zac σ, zch σ) → zOff s (s + 11) h h' → K 0 (some (.int (nI (zus σ)))) h' n) : C 65 [.ref s, .int (nI c)] h n K := by
  obtain ⟨h1, -⟩ := id H
  refine zd_X5_growBase hC rfl fun P hgo hF => ?_
  refine hgo [] 40 _ _ _ _ _ _ _ ?_
  conv => whnf
  refine ⟨_, h1, ?_⟩
  conv => whnf
  refine S_X5_takeNumber hC H hu fun h2 H2 ho2 => ?_
  obtain ⟨a1, a2, a3, a4, ⟨cf, a5, a6⟩, a7⟩ := id H2
  obtain ⟨f, g, ⟨b1, -, -⟩, -⟩ := a2.raw
  conv => whnf
  repeat (first
    | (refine ⟨_, by assumption, _, rfl, ?_⟩; conv => whnf)
    | (refine ⟨_, _, by assumption, Nat.le_of_ble_eq_true rfl, ?_⟩; conv => whnf)
    | (refine ⟨_, by assumption, Nat.le_of_ble_eq_true rfl, ⟨rfl, rfl⟩, ?_⟩; conv => whnf)
    | (refine ⟨_, by assumption, ?_⟩; conv => whnf))
  refine S_X0_putLast hC a2 hl.1 ⟨hu, hc⟩ fun h3 B3 ho3 => ?_
  have a1' := (ho3 s (by omega)).trans a1
  have a3' := a3.off ho3 (by omega)
  have a4' := a4.off ho3 (by omega)
  obtain ⟨f, g, ⟨b1, -, -⟩, -⟩ := a3'.raw
  conv => whnf
  repeat (first
    | (refine ⟨_, by assumption, _, rfl, ?_⟩; conv => whnf)
    | (refine ⟨_, _, by assumption, Nat.le_of_ble_eq_true rfl, ?_⟩; conv => whnf)
    | (refine ⟨_, by assumption, Nat.le_of_ble_eq_true rfl, ⟨rfl, rfl⟩, ?_⟩; conv => whnf)
    | (refine ⟨_, by assumption, ?_⟩; conv => whnf))
  refine S_X0_putLast hC a3' hl.2.1 ⟨hu, hc⟩ fun h4 B4 ho4 => ?_
  have a1'' := (ho4 s (by omega)).trans a1'
  have a4'' := a4'.off ho4 (by omega)
  obtain ⟨f, g, ⟨b1, -, -⟩, -⟩ := a4''.raw
  conv => whnf
  repeat (first
    | (refine ⟨_, by assumption, _, rfl, ?_⟩; conv => whnf)
    | (refine ⟨_, _, by assumption, Nat.le_of_ble_eq_true rfl, ?_⟩; conv => whnf)
    | (refine ⟨_, by assumption, Nat.le_of_ble_eq_true rfl, ⟨rfl, rfl⟩, ?_⟩; conv => whnf)
    | (refine ⟨_, by assumption, ?_⟩; conv => whnf))
  refine S_X0_putLast hC a4'' hl.2.2 ⟨hu, hc⟩ fun h5 B5 ho5 => ?_
  conv => whnf
  refine H1 h5 ⟨(ho5 s (by omega)).trans a1'', (B3.off ho4 (by omega)).off ho5 (by omega), B4.off ho5 (by omega), B5, ⟨cf, ?_, a6⟩, a7⟩ ?_
  · rw [ho5 _ (by omega), ho4 _ (by omega), ho3 _ (by omega)]; exact a5
  · exact ho2.tr ((ho3.wd (by omega) (by omega)).tr ((ho4.wd (by omega) (by omega)).tr (ho5.wd (by omega) (by omega))))
set_option maxRecDepth 100000 in
theorem S_X5_putNewBlock {C : zK} (hC : zCld 215 zTT C) {h : zH} {n : Nat} {K : zQ} {s : Nat} {σ : zS} (H : zSta h s σ) (hu : zus σ < 1000) {d p c : Nat} (hd : d < 2) (hp : p ≤ (zdr σ d).length) (hl : (zdr σ d).length < 15) (hc : c < 1000) (H1 : ∀ h', zSta h' s (zsd (zba σ, zd0 σ, zd1 σ, zus σ + 1, zpf σ, zac σ, zch σ) d ((zdr σ d).insertIdx p (zus σ, c))) → zOff s (s + 11) h h' → K 0 (some (.int (nI (zus σ)))) h' n) : C 66 [.ref s, .int (nI d), .int (nI p), .int (nI c)] h n K := by
  obtain ⟨h1, -⟩ := id H
  refine zd_X5_putNewBlock hC rfl fun P hgo hF => ?_
  refine hgo [] 40 _ _ _ _ _ _ _ ?_
  conv => whnf
  refine ⟨_, h1, ?_⟩
  conv => whnf
  refine S_X5_takeNumber hC H hu fun h2 H2 ho2 => ?_
  obtain ⟨a1, -⟩ := id H2
  conv => whnf
  refine ⟨_, a1, ?_⟩
  conv => whnf
  refine S_X5_draft hC H2 hd ?_
  have hB := H2.dr (d := d)
  obtain ⟨f, g, ⟨b1, -, -⟩, -⟩ := hB.raw
  conv => whnf
  refine ⟨_, b1, ?_⟩
  conv => whnf
  have e9 : zdr (zba σ, zd0 σ, zd1 σ, zus σ + 1, zpf σ, zac σ, zch σ) d = zdr σ d := rfl
  rw [e9] at hB
  refine S_X0_putIn hC hB hp hl ⟨hu, hc⟩ fun h3 B3 ho3 => ?_
  conv => whnf
  exact H1 h3 (H2.setd B3 ho3) (ho2.tr (ho3.wd (by have := zda_in s d; omega) (by have := zda_in s d; omega)))
set_option maxRecDepth 100000 in
theorem S_X5_choiceIndex {C : zK} (hC : zCld 215 zTT C) {h : zH} {n : Nat} {K : zQ} {b k : Nat} (H1 : K 0 (some (.int (nI (b * 3 + k)))) h n) : C 71 [.int (nI b), .int (nI (k + 1))] h n K := by
  refine zd_X5_choiceIndex hC rfl fun P hgo hF => ?_
  refine hgo [] 30 _ _ _ _ _ _ _ ?_
  conv => whnf
  rw [show nI b * 3 + nI (k + 1) - 1 = nI (b * 3 + k) by
    rw [show (3 : Int32) = nI 3 from rfl, pk_mul, nI_add, show b * 3 + (k + 1) = b * 3 + k + 1 by omega, nI_pred]]
  exact H1
set_option maxRecDepth 100000 in
theorem S_X5_choice {C : zK} (hC : zCld 215 zTT C) {h : zH} {n : Nat} {K : zQ} {s : Nat} {σ : zS} (H : zSta h s σ) {b k : Nat} (hb : b < 10 ∧ k < 3) (H1 : K 0 (some (.int (zch σ (b * 3 + k)))) h n) : C 68 [.ref s, .int (nI b), .int (nI (k + 1))] h n K := by
  obtain ⟨h1, h2, h3, h4, ⟨cf, h5, h6⟩, h7⟩ := id H
  refine zd_X5_choice hC rfl fun P hgo hF => ?_
  refine hgo [] 30 _ _ _ _ _ _ _ ?_
  conv => whnf
  repeat (first
    | (refine ⟨_, by assumption, _, rfl, ?_⟩; conv => whnf)
    | (refine ⟨_, _, by assumption, Nat.le_of_ble_eq_true rfl, ?_⟩; conv => whnf)
    | (refine ⟨_, by assumption, Nat.le_of_ble_eq_true rfl, ⟨rfl, rfl⟩, ?_⟩; conv => whnf)
    | (refine ⟨_, by assumption, ?_⟩; conv => whnf))
  refine S_X5_choiceIndex hC ?_
  conv => whnf
  refine S_getC hC h5 (by decide) (show b * 3 + k < 30 by omega) ?_
  conv => whnf
  rw [h6 _ (by omega)]
  exact H1
/-- the draft that counts as the choice -/
def zcp (σ : zS) (b k : Nat) : Int32 := if zch σ (b * 3 + k) = -1 then nI (zpf σ) else zch σ (b * 3 + k)
set_option maxRecDepth 100000 in
theorem S_X5_choiceOrPreferred {C : zK} (hC : zCld 215 zTT C) {h : zH} {n : Nat} {K : zQ} {s : Nat} {σ : zS} (H : zSta h s σ) {b k : Nat} (hb : b < 10 ∧ k < 3) (H1 : K 0 (some (.int (zcp σ b k))) h n) : C 69 [.ref s, .int (nI b), .int (nI (k + 1))] h n K := by
  obtain ⟨h1, h2, h3, h4, ⟨cf, h5, h6⟩, h7⟩ := id H
  refine zd_X5_choiceOrPreferred hC rfl fun P hgo hF => ?_
  refine hgo [] 30 _ _ _ _ _ _ _ ?_
  conv => whnf
  refine ⟨_, h1, ?_⟩
  conv => whnf
  refine S_X5_choice hC H hb ?_
  conv => whnf
  refine ⟨fun q => ?_, fun q => ?_⟩
  · conv => whnf
    unfold zcp at H1
    rw [if_neg q] at H1
    exact H1
  · conv => whnf
    repeat (first
      | (refine ⟨_, by assumption, _, rfl, ?_⟩; conv => whnf)
      | (refine ⟨_, _, by assumption, Nat.le_of_ble_eq_true rfl, ?_⟩; conv => whnf)
      | (refine ⟨_, by assumption, Nat.le_of_ble_eq_true rfl, ⟨rfl, rfl⟩, ?_⟩; conv => whnf)
      | (refine ⟨_, by assumption, ?_⟩; conv => whnf))
    unfold zcp at H1
    rw [if_pos q] at H1
    exact H1
set_option maxRecDepth 100000 in
theorem S_X5_setChoice {C : zK} (hC : zCld 215 zTT C) {h : zH} {n : Nat} {K : zQ} {s : Nat} {σ : zS} (H : zSta h s σ) {b k : Nat} (hb : b < 10 ∧ k < 3) {x : Int32} (H1 : ∀ h', zSta h' s (zba σ, zd0 σ, zd1 σ, zus σ, zpf σ, zac σ, upd (zch σ) (b * 3 + k) x) → zOff s (s + 11) h h' → K 0 (some (.int (zch σ (b * 3 + k)))) h' n) : C 70 [.ref s, .int (nI b), .int (nI (k + 1)), .int x] h n K := by
  obtain ⟨h1, h2, h3, h4, ⟨cf, h5, h6⟩, h7⟩ := id H
  refine zd_X5_setChoice hC rfl fun P hgo hF => ?_
  refine hgo [] 30 _ _ _ _ _ _ _ ?_
  conv => whnf
  refine ⟨_, h1, ?_⟩
  conv => whnf
  refine S_X5_choice hC H hb ?_
  conv => whnf
  repeat (first
    | (refine ⟨_, by assumption, _, rfl, ?_⟩; conv => whnf)
    | (refine ⟨_, _, by assumption, Nat.le_of_ble_eq_true rfl, ?_⟩; conv => whnf)
    | (refine ⟨_, by assumption, Nat.le_of_ble_eq_true rfl, ⟨rfl, rfl⟩, ?_⟩; conv => whnf)
    | (refine ⟨_, by assumption, ?_⟩; conv => whnf))
  refine S_X5_choiceIndex hC ?_
  conv => whnf
  refine S_X6_setCell hC h5 (by decide) (fun j hj e => ?_) (fun hno => absurd rfl (hno (b * 3 + k) (by omega)))
  rw [← nI_inj (show b * 3 + k < 2 ^ 31 by omega) (show j < 2 ^ 31 by omega) e]
  conv => whnf
  have ho : zOff (s + 10) (s + 11) h (zupd h (s + 10) (.inl (0, 30, .inl (upd cf (b * 3 + k) x)))) := zOff.up (Nat.le_refl _) (by omega)
  refine H1 _ ⟨(ho _ (by omega)).trans h1, h2.off ho (by omega), h3.off ho (by omega), h4.off ho (by omega), ⟨_, zupd_s, fun i hi => ?_⟩, h7⟩ (ho.wd (by omega) (by omega))
  show upd cf (b * 3 + k) x i = upd (zch σ) (b * 3 + k) x i
  unfold upd
  by_cases c1 : i = b * 3 + k
  · rw [if_pos c1, if_pos c1]
  · rw [if_neg c1, if_neg c1]; exact h6 i hi

