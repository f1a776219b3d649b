/-! Constructors, second part -/
theorem zfit_mk {a b c d : Nat} (h1 : a ≤ c) (h2 : b ≤ d) : zfit (c, d) a b = true := by
  show (Nat.ble a c && Nat.ble b d) = true
  rw [Nat.ble_eq_true_of_le h1, Nat.ble_eq_true_of_le h2]
  rfl
theorem zSta.eq {h h' : zH} {s : Nat} {σ : zS} (H : zSta h s σ) (o : ∀ a, s ≤ a → a < s + 11 → h' a = h a) : zSta h' s σ := by
  obtain ⟨a1, a2, a3, a4, ⟨cf, a5, a6⟩, a7⟩ := H
  exact ⟨(o _ (by omega) (by omega)).trans a1, a2.eq (fun a h1 h2 => o a (by omega) (by omega)), a3.eq (fun a h1 h2 => o a (by omega) (by omega)), a4.eq (fun a h1 h2 => o a (by omega) (by omega)), ⟨cf, (o _ (by omega) (by omega)).trans a5, a6⟩, a7⟩
set_option maxRecDepth 100000 in
theorem S_X3_init {C : zK} (hC : zCld 215 zTT C) {h : zH} {n : Nat} {K : zQ} {t : Nat} (hs : h t = .inr (3, [.null, .int 0, .int 0])) (H1 : ∀ h', zHis h' t 0 [] → (∀ a, a < t → h' a = h a) → K 0 none h' (t + 68)) : C 42 [.ref t] h (t + 1) K := by
  refine zd_X3_init hC rfl fun P hgo hF => ?_
  have loop : ∀ e i (h2 : zH) (rf : Nat → Option Nat), i + e = 6 → h2 t = .inr (3, [.ref (t + 1), .int 0, .int 0]) → h2 (t + 1) = .inl (4, 6, .inr (.inr (.inr (.inr rf)))) → (∀ j, j < i → rf j = some (t + 2 + 11 * j)) → (∀ j, j < i → zSta h2 (t + 2 + 11 * j) zS0) → (∀ a, a < t → h2 a = h a) → P 25 [some (.ref t), some (.int (nI i))] [] h2 (t + 2 + 11 * i) (1 + 11 * i) (6 + 126 * i) := by
    intro e
    induction e with
    | zero =>
      intro i h2 rf hi b1 b2 b3 b4 b5
      rw [show i = 6 by omega] at b3 b4 ⊢
      refine hgo [25] 60 _ _ _ _ _ _ _ ?_
      conv => whnf
      refine ⟨_, b1, _, rfl, ?_⟩
      conv => whnf
      refine ⟨_, _, b2, by decide, ?_⟩
      conv => whnf
      refine ⟨fun _ => ?_, fun q => absurd (show Int32.ofNat 6 ≤ nI 6 by decide) q⟩
      conv => whnf
      exact H1 h2 ⟨b1, ⟨rf, b2, b3⟩, by omega, Nat.zero_le _, fun j hj => (b4 j hj).shp, fun j σ hj => nomatch hj⟩ b5
    | succ e ih =>
      intro i h2 rf hi b1 b2 b3 b4 b5
      refine hgo [25] 60 _ _ _ _ _ _ _ ?_
      conv => whnf
      refine ⟨_, b1, _, rfl, ?_⟩
      conv => whnf
      refine ⟨_, _, b2, by decide, ?_⟩
      conv => whnf
      refine ⟨fun q => absurd q (show ¬ nI 6 ≤ nI i from nI_ge (by omega) (by decide)), fun _ => ?_⟩
      conv => whnf
      refine ⟨_, b1, _, rfl, ?_⟩
      conv => whnf
      refine ⟨zfit_mk (by omega) (show 6 + 126 * i + 7 ≤ 762 by omega), ?_⟩
      conv => whnf
      refine ⟨zfit_mk (show 1 + 11 * i + 1 + 10 ≤ 67 by omega) (show 6 + 126 * i + 7 + 119 ≤ 762 by omega), _, zupd_s, ?_⟩
      refine S_X5_init hC (n := 0) (s := t + 2 + 11 * i) zupd_s (fun h3 S3 o3 => ?_)
      have c1 : h3 t = .inr (3, [.ref (t + 1), .int 0, .int 0]) := (o3 t (by omega)).trans ((zupd_n (by omega)).trans b1)
      have c2 : h3 (t + 1) = .inl (4, 6, .inr (.inr (.inr (.inr rf)))) := (o3 (t + 1) (by omega)).trans ((zupd_n (by omega)).trans b2)
      have c4 : ∀ j, j < i → zSta h3 (t + 2 + 11 * j) zS0 := fun j hj => (b4 j hj).eq (fun a h8 h9 => (o3 a (by omega)).trans (zupd_n (by omega)))
      conv => whnf
      refine ⟨_, _, c2, ⟨_, S3.1⟩, vp_in_nI (show i < 6 by omega) (by decide), ?_⟩
      rw [nI_clamp (show i < 2 ^ 31 by omega)]
      conv => whnf
      have k9 := ih (i + 1) (zupd h3 (t + 1) (.inl (4, 6, .inr (.inr (.inr (.inr (va_up rf i (some (t + 2 + 11 * i))))))))) (va_up rf i (some (t + 2 + 11 * i))) (by omega) ((zupd_n (by omega)).trans c1) zupd_s (fun j hj => by
        by_cases e1 : j = i
        · rw [e1]
          exact if_pos rfl
        · exact (if_neg e1).trans (b3 j (by omega))) (fun j hj => by
        by_cases e1 : j = i
        · rw [e1]
          exact S3.eq (fun a h8 h9 => zupd_n (by omega))
        · exact (c4 j (by omega)).eq (fun a h8 h9 => zupd_n (by omega))) (fun a ha => (zupd_n (by omega)).trans ((o3 a (by omega)).trans ((zupd_n (by omega)).trans (b5 a ha))))
      rw [← zinc (j := i)] at k9
      exact k9
  refine hgo [25] 60 _ _ _ _ _ _ _ ?_
  conv => whnf
  refine ⟨by decide, by decide, rfl, ?_⟩
  conv => whnf
  refine ⟨_, (zupd_n (by omega)).trans hs, Nat.le_of_ble_eq_true rfl, ⟨rfl, rfl⟩, ?_⟩
  conv => whnf
  refine ⟨_, zupd_s, Nat.le_of_ble_eq_true rfl, ⟨rfl, rfl⟩, ?_⟩
  conv => whnf
  refine ⟨_, zupd_s, Nat.le_of_ble_eq_true rfl, ⟨rfl, rfl⟩, ?_⟩
  conv => whnf
  refine loop 6 0 _ (fun _ => none) rfl zupd_s ?_ (fun j hj => absurd hj (Nat.not_lt_zero _)) (fun j hj => absurd hj (Nat.not_lt_zero _)) (fun a ha => ?_)
  · rw [zupd_n (by omega), zupd_n (by omega), zupd_n (by omega)]
    exact zupd_s
  · rw [zupd_n (by omega), zupd_n (by omega), zupd_n (by omega), zupd_n (by omega)]
theorem zDc.eq9 {h h' : zH} {d B : Nat} {cf af : Nat → Int32} (H : zDc h d cf af) (o : ∀ a, a < B → h' a = h a) (hd : d + 3 ≤ B) : zDc h' d cf af := ⟨(o _ (by omega)).trans H.1, (o _ (by omega)).trans H.2.1, (o _ (by omega)).trans H.2.2⟩
theorem zDc.put {h : zH} {d a : Nat} {cf af : Nat → Int32} {x : zC} (H : zDc h d cf af) (ha : a < d ∨ d + 3 ≤ a) : zDc (zupd h a x) d cf af := ⟨(zupd_n (by omega)).trans H.1, (zupd_n (by omega)).trans H.2.1, (zupd_n (by omega)).trans H.2.2⟩
set_option maxRecDepth 100000 in
theorem S_X4_init {C : zK} (hC : zCld 215 zTT C) {h : zH} {n : Nat} {K : zQ} {m : Nat} (hs : h m = .inr (4, [.null, .null, .null, .null, .null, .int 0, .null, .null])) (H1 : ∀ h', zMsh h' m → (∀ a, a < m → h' a = h a) → K 0 none h' (m + 14)) : C 47 [.ref m] h (m + 1) K := by
  refine zd_X4_init hC rfl fun P hgo hF => ?_
  refine hgo [] 100 _ _ _ _ _ _ _ ?_
  conv => whnf
  refine ⟨rfl, ?_⟩
  conv => whnf
  refine ⟨by decide, by decide, rfl, ?_⟩
  conv => whnf
  refine ⟨by decide, by decide, rfl, ?_⟩
  conv => whnf
  refine ⟨_, (zupd_n (by omega)).trans ((zupd_n (by omega)).trans zupd_s), ?_⟩
  refine S_newB hC ((zupd_n (by omega)).trans ((zupd_n (by omega)).trans zupd_s)) (fun h1 e1 o1 => ?_)
  obtain ⟨r1, f1⟩ := zx0 (b := m + 1) (N := 30) e1 o1
  have b1 := (f1 m (by omega)).trans hs
  have g1 : ∀ a, a < m → h1 a = h a := fun a ha => f1 a (by omega)
  clear e1 o1 f1
  conv => whnf
  refine ⟨_, b1, Nat.le_of_ble_eq_true rfl, ⟨rfl, rfl⟩, ?_⟩
  conv => whnf
  refine ⟨rfl, ?_⟩
  conv => whnf
  refine ⟨rfl, _, zupd_s, ?_⟩
  refine S_X2_init hC (n := 0) (d := m + 4) zupd_s (fun h2 D2 f2 => ?_)
  have b2 := (f2 m (by omega)).trans ((zupd_n (by omega)).trans zupd_s)
  have w1 : zRaw h2 (m + 1) 30 0 zz0 zz0 := (zRaw.put (a := m + 4) (zRaw.put (a := m) r1 (by omega)) (by omega)).eq9 f2 (by omega)
  have g2 : ∀ a, a < m → h2 a = h a := fun a ha => (f2 a (by omega)).trans ((zupd_n (by omega)).trans ((zupd_n (by omega)).trans (g1 a ha)))
  clear f2 r1 g1 b1
  conv => whnf
  refine ⟨_, b2, Nat.le_of_ble_eq_true rfl, ⟨rfl, rfl⟩, ?_⟩
  conv => whnf
  refine ⟨rfl, ?_⟩
  conv => whnf
  refine ⟨rfl, _, zupd_s, ?_⟩
  refine S_X2_init hC (n := 0) (d := m + 7) zupd_s (fun h3 D3 f3 => ?_)
  have b3 := (f3 m (by omega)).trans ((zupd_n (by omega)).trans zupd_s)
  have v1 : zRaw h3 (m + 1) 30 0 zz0 zz0 := (zRaw.put (a := m + 7) (zRaw.put (a := m) w1 (by omega)) (by omega)).eq9 f3 (by omega)
  have v2 : zDc h3 (m + 4) zz0 zz0 := (zDc.put (a := m + 7) (zDc.put (a := m) D2 (by omega)) (by omega)).eq9 f3 (by omega)
  have g3 : ∀ a, a < m → h3 a = h a := fun a ha => (f3 a (by omega)).trans ((zupd_n (by omega)).trans ((zupd_n (by omega)).trans (g2 a ha)))
  clear f3 w1 D2 g2 b2
  conv => whnf
  refine ⟨_, b3, Nat.le_of_ble_eq_true rfl, ⟨rfl, rfl⟩, ?_⟩
  conv => whnf
  refine ⟨by decide, by decide, rfl, ?_⟩
  conv => whnf
  refine ⟨_, (zupd_n (by omega)).trans zupd_s, Nat.le_of_ble_eq_true rfl, ⟨rfl, rfl⟩, ?_⟩
  conv => whnf
  refine ⟨by decide, by decide, rfl, ?_⟩
  conv => whnf
  refine ⟨_, (zupd_n (by omega)).trans zupd_s, Nat.le_of_ble_eq_true rfl, ⟨rfl, rfl⟩, ?_⟩
  conv => whnf
  refine ⟨_, zupd_s, Nat.le_of_ble_eq_true rfl, ⟨rfl, rfl⟩, ?_⟩
  conv => whnf
  refine ⟨by decide, by decide, rfl, ?_⟩
  conv => whnf
  refine ⟨_, (zupd_n (by omega)).trans zupd_s, Nat.le_of_ble_eq_true rfl, ⟨rfl, rfl⟩, ?_⟩
  conv => whnf
  refine ⟨by decide, by decide, rfl, ?_⟩
  conv => whnf
  refine ⟨_, (zupd_n (by omega)).trans zupd_s, Nat.le_of_ble_eq_true rfl, ⟨rfl, rfl⟩, ?_⟩
  conv => whnf
  have key : ∀ (x1 x2 x3 x4 x5 x6 y1 y2 y3 y4 : zC) (a : Nat), a ≠ m → a < m + 10 → zupd (zupd (zupd (zupd (zupd (zupd (zupd (zupd (zupd (zupd h3 m x1) (m + 10) y1) m x2) (m + 11) y2) m x3) m x4) (m + 12) y3) m x5) (m + 13) y4) m x6 a = h3 a := by
    intro x1 x2 x3 x4 x5 x6 y1 y2 y3 y4 a z1 z2
    rw [zupd_n z1, zupd_n (by omega), zupd_n z1, zupd_n (by omega), zupd_n z1, zupd_n z1, zupd_n (by omega), zupd_n z1, zupd_n (by omega), zupd_n z1]
  refine H1 _ ⟨⟨0, zz0, zz0, zz0, zz0, zupd_s, ?_, ?_, ?_, ?_⟩, ⟨0, zz0, zz0, ?_, ?_, ?_⟩, ⟨zz0, zz0, ?_, ?_, ?_⟩, ⟨zz0, zz0, ?_, ?_, ?_⟩⟩ (fun a ha => ?_)
  · rw [zupd_n (by omega), zupd_n (by omega), zupd_n (by omega), zupd_n (by omega), zupd_n (by omega), zupd_n (by omega), zupd_n (by omega), zupd_n (by omega)]
    exact zupd_s
  · rw [zupd_n (by omega), zupd_n (by omega), zupd_n (by omega), zupd_n (by omega), zupd_n (by omega), zupd_n (by omega)]
    exact zupd_s
  · rw [zupd_n (by omega), zupd_n (by omega), zupd_n (by omega)]
    exact zupd_s
  · rw [zupd_n (by omega)]
    exact zupd_s
  · exact (key _ _ _ _ _ _ _ _ _ _ (m + 1) (by omega) (by omega)).trans v1.1
  · exact (key _ _ _ _ _ _ _ _ _ _ (m + 1 + 1) (by omega) (by omega)).trans v1.2.1
  · exact (key _ _ _ _ _ _ _ _ _ _ (m + 1 + 2) (by omega) (by omega)).trans v1.2.2
  · exact (key _ _ _ _ _ _ _ _ _ _ (m + 4) (by omega) (by omega)).trans v2.1
  · exact (key _ _ _ _ _ _ _ _ _ _ (m + 4 + 1) (by omega) (by omega)).trans v2.2.1
  · exact (key _ _ _ _ _ _ _ _ _ _ (m + 4 + 2) (by omega) (by omega)).trans v2.2.2
  · exact (key _ _ _ _ _ _ _ _ _ _ (m + 7) (by omega) (by omega)).trans D3.1
  · exact (key _ _ _ _ _ _ _ _ _ _ (m + 7 + 1) (by omega) (by omega)).trans D3.2.1
  · exact (key _ _ _ _ _ _ _ _ _ _ (m + 7 + 2) (by omega) (by omega)).trans D3.2.2
  · exact (key _ _ _ _ _ _ _ _ _ _ a (by omega) (by omega)).trans (g3 a ha)

