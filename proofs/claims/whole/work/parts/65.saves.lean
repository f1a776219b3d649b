/-! The reference: saved states -/
theorem zRs.cg {f f' : Nat → Int32} {σ : zS} (H : zRs f σ) (e : ∀ w, w < 106 → f' w = f w) : zRs f' σ := by
  obtain ⟨a1, a2, a3, a4, a5, a6, a7, a8, a9, a10, a11, a12⟩ := H
  refine ⟨(e _ (by omega)).trans a1, (e _ (by omega)).trans a2, fun i v hv => ?_, fun d' hd' => ?_, fun k hk => (e _ (by omega)).trans (a5 k hk), (e _ (by omega)).trans a6, (e _ (by omega)).trans a7, a8, a9, a10, a11, a12⟩
  · have hi := (List.getElem?_eq_some_iff.mp hv).1
    exact (e _ (by omega)).trans (a3 i v hv)
  · obtain ⟨b1, b2⟩ := a4 d' hd'
    refine ⟨(e _ (by omega)).trans b1, fun j v hv => ?_⟩
    have hj := (List.getElem?_eq_some_iff.mp hv).1
    have hl := a9 d'
    exact ⟨(e _ (by omega)).trans (b2 j v hv).1, (e _ (by omega)).trans (b2 j v hv).2⟩
/-- the rows saved, the newest last -/
def zBf (bf : Nat → Int32) (Sv : List zS) : Prop := ∀ j σ, Sv[j]? = some σ → zRs (fun w => bf (106 * (Sv.length - 1 - j) + w)) σ
theorem zBf.push {bf bf' f : Nat → Int32} {Sv : List zS} {σ : zS} (H : zBf bf Sv) (h1 : ∀ w, w < 106 * Sv.length → bf' w = bf w) (h2 : ∀ w, w < 106 → bf' (106 * Sv.length + w) = f w) (h3 : zRs f σ) : zBf bf' (σ :: Sv) := by
  intro j τ hj
  cases j with
  | zero =>
    have e : σ = τ := Option.some.inj hj
    rw [← e]
    exact h3.cg fun w hw => h2 w hw
  | succ j =>
    have hj' : Sv[j]? = some τ := hj
    have hl := (List.getElem?_eq_some_iff.mp hj').1
    refine (H j τ hj').cg fun w hw => ?_
    show bf' (106 * (Sv.length + 1 - 1 - (j + 1)) + w) = bf (106 * (Sv.length - 1 - j) + w)
    rw [show Sv.length + 1 - 1 - (j + 1) = Sv.length - 1 - j by omega]
    refine h1 _ ?_
    have : 106 * (Sv.length - 1 - j) + 106 ≤ 106 * Sv.length := by omega
    omega
theorem zBf.drop {bf bf' : Nat → Int32} {Sv : List zS} (H : zBf bf Sv) (hl : Sv.length = 6) (h1 : ∀ w, w < 530 → bf' w = bf (106 + w)) : zBf bf' (Sv.take 5) := by
  intro j τ hj
  have hlt : (Sv.take 5).length = 5 := by rw [List.length_take, hl]; rfl
  have hj5 := (List.getElem?_eq_some_iff.mp hj).1
  rw [hlt] at hj5
  rw [List.getElem?_take, if_pos hj5] at hj
  refine (H j τ hj).cg fun w hw => ?_
  show bf' (106 * ((Sv.take 5).length - 1 - j) + w) = bf (106 * (Sv.length - 1 - j) + w)
  rw [hlt, hl, h1 _ (by omega), show 106 + (106 * (5 - 1 - j) + w) = 106 * (6 - 1 - j) + w by omega]
set_option maxRecDepth 100000 in
theorem S_X7_saves {C : zK} (hC : zCld 215 zTT C) {h : zH} {n : Nat} {K : zQ} {r : Nat} {c f bf : Nat → Int32} {σ : zS} {Sv : List zS} (h1 : h r = zRO r c) (h2 : h (r + 1) = .inl (0, 106, .inl f)) (h3 : zRs f σ) (h4 : h (r + 2) = .inl (0, 636, .inl bf)) (h5 : zBf bf Sv) (h6 : c 2 = nI Sv.length) (h7 : Sv.length ≤ 6) (H1 : ∀ h' c' bf', h' r = zRO r c' → c' 2 = nI ((σ :: Sv).take 6).length → (∀ i, i ≠ 2 → c' i = c i) → h' (r + 2) = .inl (0, 636, .inl bf') → zBf bf' ((σ :: Sv).take 6) → (∀ a, a ≠ r → a ≠ r + 2 → h' a = h a) → K 0 none h' n) : C 122 [.ref r] h n K := by
  refine zd_X7_saves hC rfl fun P hgo hF => ?_
  have tail : ∀ (g : zH) (c4 bf4 : Nat → Int32) (o : Option Value), (Sv.take 5).length ≤ 5 → g r = zRO r c4 → c4 2 = nI (Sv.take 5).length → (∀ i, i ≠ 2 → c4 i = c i) → g (r + 2) = .inl (0, 636, .inl bf4) → zBf bf4 (Sv.take 5) → (∀ a, a ≠ r → a ≠ r + 2 → g a = h a) → P 49 [some (.ref r), o] [] g n 0 0 := by
    intro g c4 bf4 o hm a1 a2 a3 a4 a5 a6
    have hS6' : (σ :: Sv).take 6 = σ :: Sv.take 5 := rfl
    have hS6 : ((σ :: Sv).take 6).length = (Sv.take 5).length + 1 := by rw [hS6']; rfl
    generalize Sv.take 5 = S4 at hm a2 a5 hS6 hS6'
    have a7 : g (r + 1) = .inl (0, 106, .inl f) := (a6 _ (by omega) (by omega)).trans h2
    have htk : (σ :: S4).length = S4.length + 1 := rfl
    have loop : ∀ e k (g2 : zH) (bf2 : Nat → Int32), k + e = 106 → g2 r = zRO r c4 → g2 (r + 1) = .inl (0, 106, .inl f) → g2 (r + 2) = .inl (0, 636, .inl bf2) → (∀ w, w < 106 * S4.length → bf2 w = bf4 w) → (∀ w, w < k → bf2 (106 * S4.length + w) = f w) → (∀ a, a ≠ r → a ≠ r + 2 → g2 a = h a) → P 51 [some (.ref r), some (.int (nI k))] [] g2 n 0 0 := by
      intro e
      induction e with
      | zero =>
        intro k g2 bf2 hk b1 b2 b3 b4 b5 b6
        have hk2 : k = 106 := by omega
        rw [hk2]
        refine hgo [51] 60 _ _ _ _ _ _ _ ?_
        conv => whnf
        refine ⟨fun _ => ?_, fun q => absurd (by decide) q⟩
        conv => whnf
        refine ⟨_, b1, _, rfl, ?_⟩
        conv => whnf
        refine ⟨_, b1, Nat.le_of_ble_eq_true rfl, ⟨rfl, rfl⟩, ?_⟩
        conv => whnf
        rw [hk2] at b5
        show K 0 none (zupd g2 r (zRO r (upd c4 2 (c4 2 + 1)))) n
        refine H1 _ (upd c4 2 (c4 2 + 1)) bf2 zupd_s ?_ (fun i hi => (upd_n hi).trans (a3 i hi)) ((zupd_n (by omega)).trans b3) ?_ (fun a h8 h9 => (zupd_n h8).trans (b6 a h8 h9))
        · rw [upd_s, a2, hS6, nI_1]
        · rw [hS6']
          exact a5.push b4 b5 h3
      | succ e ih =>
        intro k g2 bf2 hk b1 b2 b3 b4 b5 b6
        refine hgo [51] 60 _ _ _ _ _ _ _ ?_
        conv => whnf
        refine ⟨fun q => absurd q (nI_ge (show k < 106 by omega) (by decide)), fun _ => ?_⟩
        conv => whnf
        refine ⟨_, b1, _, rfl, ?_⟩
        conv => whnf
        refine ⟨_, b1, _, rfl, ?_⟩
        conv => whnf
        refine ⟨_, b1, _, rfl, ?_⟩
        conv => whnf
        refine ⟨_, _, b2, vp_in_nI (show k < 106 by omega) (by decide), ?_⟩
        conv => whnf
        rw [nI_clamp (show k < 2 ^ 31 by omega), a2, show (106 : Int32) * nI S4.length + nI k = nI (106 * S4.length + k) by rw [show (106 : Int32) = nI 106 by decide, pk_mul, nI_add]]
        refine ⟨_, _, b3, vp_in_nI (by omega) (by decide), ?_⟩
        rw [nI_clamp (by omega)]
        conv => whnf
        have k9 := ih (k + 1) (zupd g2 (r + 2) (.inl (0, 636, .inl (upd bf2 (106 * S4.length + k) (f k))))) _ (by omega) ((zupd_n (by omega)).trans b1) ((zupd_n (by omega)).trans b2) zupd_s (fun w hw => (upd_n (by omega)).trans (b4 w hw)) (fun w hw => by
          by_cases c1 : w = k
          · rw [c1, upd_s]
          · rw [upd_n (by omega)]; exact b5 w (by omega)) (fun a h8 h9 => (zupd_n h9).trans (b6 a h8 h9))
        rw [← zinc (j := k)] at k9
        exact k9
    refine hgo [51] 60 _ _ _ _ _ _ _ ?_
    conv => whnf
    exact loop 106 0 g bf4 (by omega) a1 a7 a4 (fun w _ => rfl) (fun w hw => absurd hw (Nat.not_lt_zero _)) a6
  have loop1 : ∀ e k (g2 : zH) (bf2 : Nat → Int32), Sv.length = 6 → k + e = 530 → g2 r = zRO r c → g2 (r + 2) = .inl (0, 636, .inl bf2) → (∀ w, w < k → bf2 w = bf (106 + w)) → (∀ w, k ≤ w → bf2 w = bf w) → (∀ a, a ≠ r → a ≠ r + 2 → g2 a = h a) → P 11 [some (.ref r), some (.int (nI k))] [] g2 n 0 0 := by
    intro e
    induction e with
    | zero =>
      intro k g2 bf2 h6' hk b1 b3 b4 b5 b6
      have hk2 : k = 530 := by omega
      rw [hk2] at b4 ⊢
      have ht5 : (Sv.take 5).length = 5 := by rw [List.length_take, h6']; rfl
      refine hgo [11, 49] 60 _ _ _ _ _ _ _ ?_
      conv => whnf
      refine ⟨fun _ => ?_, fun q => absurd (by decide) q⟩
      conv => whnf
      refine ⟨_, b1, _, rfl, ?_⟩
      conv => whnf
      refine ⟨_, b1, Nat.le_of_ble_eq_true rfl, ⟨rfl, rfl⟩, ?_⟩
      show P 49 [some (.ref r), some (.int (nI 530))] [] (zupd g2 r (zRO r (upd c 2 (c 2 - 1)))) n 0 0
      refine tail _ (upd c 2 (c 2 - 1)) bf2 _ (by omega) zupd_s ?_ (fun i hi => upd_n hi) ((zupd_n (by omega)).trans b3) (h5.drop h6' b4) (fun a h8 h9 => (zupd_n h8).trans (b6 a h8 h9))
      rw [upd_s, h6, h6', ht5]
      decide
    | succ e ih =>
      intro k g2 bf2 h6' hk b1 b3 b4 b5 b6
      refine hgo [11, 49] 60 _ _ _ _ _ _ _ ?_
      conv => whnf
      refine ⟨fun q => absurd q (nI_ge (show k < 530 by omega) (by decide)), fun _ => ?_⟩
      conv => whnf
      refine ⟨_, b1, _, rfl, ?_⟩
      conv => whnf
      refine ⟨_, b1, _, rfl, ?_⟩
      conv => whnf
      rw [show (106 : Int32) + nI k = nI (106 + k) from nI_add 106 k]
      refine ⟨_, _, b3, vp_in_nI (by omega) (by decide), ?_⟩
      conv => whnf
      rw [nI_clamp (show 106 + k < 2 ^ 31 by omega)]
      refine ⟨_, _, b3, vp_in_nI (show k < 636 by omega) (by decide), ?_⟩
      rw [nI_clamp (show k < 2 ^ 31 by omega)]
      conv => whnf
      have k9 := ih (k + 1) (zupd g2 (r + 2) (.inl (0, 636, .inl (upd bf2 k (bf2 (106 + k)))))) _ h6' (by omega) ((zupd_n (by omega)).trans b1) zupd_s (fun w hw => by
        by_cases c1 : w = k
        · rw [c1, upd_s, b5 _ (by omega)]
        · rw [upd_n (by omega)]; exact b4 w (by omega)) (fun w hw => by rw [upd_n (by omega)]; exact b5 w (by omega)) (fun a h8 h9 => (zupd_n h9).trans (b6 a h8 h9))
      rw [← zinc (j := k)] at k9
      exact k9
  refine hgo [11, 49] 60 _ _ _ _ _ _ _ ?_
  conv => whnf
  refine ⟨_, h1, _, rfl, ?_⟩
  conv => whnf
  rw [h6]
  refine ⟨fun q => ?_, fun q => ?_⟩
  · have hlt : Sv.length ≤ 5 := by
      have : Sv.length ≠ 6 := fun z => q (by rw [z]; rfl)
      omega
    have ht : Sv.take 5 = Sv := List.take_of_length_le hlt
    exact tail h c bf _ (by rw [ht]; exact hlt) h1 (by rw [ht]; exact h6) (fun i _ => rfl) h4 (by rw [ht]; exact h5) (fun a _ _ => rfl)
  · have h6' : Sv.length = 6 := nI_inj (b := 6) (by omega) (by decide) q
    conv => whnf
    exact loop1 530 0 h bf h6' (by omega) h1 h4 (fun w hw => absurd hw (Nat.not_lt_zero _)) (fun w _ => rfl) (fun a _ _ => rfl)

