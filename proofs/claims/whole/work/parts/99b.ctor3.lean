/-! Constructors, third part: the two objects -/
def zA0 : zA := (zS0, [], [])
theorem zwf0 : zwf zS0 := by
  refine ⟨(fun i v hv => nomatch hv), Nat.zero_le _, Nat.zero_le _, fun d => ?_, fun d v hv => ?_, (fun v hv => nomatch hv), Nat.zero_le _, fun k hk => Or.inl rfl⟩
  · have : zdr zS0 d = [] := by
      unfold zdr
      split <;> rfl
    rw [this]
    exact List.nodup_nil
  · have : zdr zS0 d = [] := by
      unfold zdr
      split <;> rfl
    rw [this] at hv
    exact nomatch hv
theorem zwA0 : zwA zA0 := ⟨zwf0, (fun σ hs => nomatch hs), Nat.zero_le _, Nat.zero_le _, fun c hc => nomatch hc⟩
theorem zShp.eq {h h' : zH} {s : Nat} (H : zShp h s) (o : ∀ a, s ≤ a → a < s + 11 → h' a = h a) : zShp h' s := by
  obtain ⟨⟨u, p, a, h1⟩, ⟨c1, f1, g1, r1⟩, ⟨c2, f2, g2, r2⟩, ⟨c3, f3, g3, r3⟩, ⟨cf, h5⟩⟩ := H
  exact ⟨⟨u, p, a, (o _ (by omega) (by omega)).trans h1⟩, ⟨c1, f1, g1, r1.eq (fun a z1 z2 => o a (by omega) (by omega))⟩, ⟨c2, f2, g2, r2.eq (fun a z1 z2 => o a (by omega) (by omega))⟩, ⟨c3, f3, g3, r3.eq (fun a z1 z2 => o a (by omega) (by omega))⟩, ⟨cf, (o _ (by omega) (by omega)).trans h5⟩⟩
theorem zMsh.eq {h h' : zH} {m : Nat} (H : zMsh h m) (o : ∀ a, m ≤ a → a < m + 14 → h' a = h a) : zMsh h' m := by
  obtain ⟨⟨k, cb, ck, pl, ct, a1, a2, a3, a4, a5⟩, ⟨c, f, g, r⟩, ⟨cf, af, b⟩, ⟨cf2, af2, b2⟩⟩ := H
  exact ⟨⟨k, cb, ck, pl, ct, (o _ (by omega) (by omega)).trans a1, (o _ (by omega) (by omega)).trans a2, (o _ (by omega) (by omega)).trans a3, (o _ (by omega) (by omega)).trans a4, (o _ (by omega) (by omega)).trans a5⟩, ⟨c, f, g, r.eq (fun a z1 z2 => o a (by omega) (by omega))⟩, ⟨cf, af, (o _ (by omega) (by omega)).trans b.1, (o _ (by omega) (by omega)).trans b.2.1, (o _ (by omega) (by omega)).trans b.2.2⟩, ⟨cf2, af2, (o _ (by omega) (by omega)).trans b2.1, (o _ (by omega) (by omega)).trans b2.2.1, (o _ (by omega) (by omega)).trans b2.2.2⟩⟩
set_option maxRecDepth 100000 in
theorem S_X6_init {C : zK} (hC : zCld 215 zTT C) {h : zH} {n : Nat} {K : zQ} (hs : h 0 = .inr (6, [.null, .null, .null, .null])) (H1 : ∀ h', zX h' zA0 → K 0 none h' 96) : C 74 [.ref 0] h 1 K := by
  refine zd_X6_init hC rfl fun P hgo hF => ?_
  refine hgo [] 100 _ _ _ _ _ _ _ ?_
  conv => whnf
  refine ⟨rfl, ?_⟩
  conv => whnf
  refine ⟨rfl, _, zupd_s, ?_⟩
  refine S_X5_init hC (n := 0) (s := 1) zupd_s (fun h1 S1 f1 => ?_)
  have b1 := (f1 0 (by omega)).trans ((zupd_n (by omega)).trans hs)
  clear f1
  conv => whnf
  refine ⟨_, b1, Nat.le_of_ble_eq_true rfl, ⟨rfl, rfl⟩, ?_⟩
  conv => whnf
  refine ⟨rfl, ?_⟩
  conv => whnf
  refine ⟨rfl, _, zupd_s, ?_⟩
  refine S_X3_init hC (n := 0) (t := 12) zupd_s (fun h2 S2 f2 => ?_)
  have b2 := (f2 0 (by omega)).trans ((zupd_n (by omega)).trans zupd_s)
  have s2 : zSta h2 1 zS0 := S1.eq (fun a z1 z2 => (f2 a (by omega)).trans ((zupd_n (by omega)).trans (zupd_n (by omega))))
  clear f2
  conv => whnf
  refine ⟨_, b2, Nat.le_of_ble_eq_true rfl, ⟨rfl, rfl⟩, ?_⟩
  conv => whnf
  refine ⟨rfl, ?_⟩
  conv => whnf
  refine ⟨rfl, _, zupd_s, ?_⟩
  refine S_X4_init hC (n := 0) (m := 80) zupd_s (fun h3 S3 f3 => ?_)
  have b3 := (f3 0 (by omega)).trans ((zupd_n (by omega)).trans zupd_s)
  have s3 : zSta h3 1 zS0 := s2.eq (fun a z1 z2 => (f3 a (by omega)).trans ((zupd_n (by omega)).trans (zupd_n (by omega))))
  have e3 : ∀ a, 12 ≤ a → a < 80 → h3 a = h2 a := fun a z1 z2 => (f3 a z2).trans ((zupd_n (by omega)).trans (zupd_n (by omega)))
  clear f3
  conv => whnf
  refine ⟨_, b3, Nat.le_of_ble_eq_true rfl, ⟨rfl, rfl⟩, ?_⟩
  conv => whnf
  refine ⟨rfl, ?_⟩
  conv => whnf
  refine ⟨rfl, _, zupd_s, ?_⟩
  refine S_X1_init hC (n := 0) (t := 94) zupd_s (fun h4 S4 f4 => ?_)
  have b4 := (f4 0 (by omega)).trans ((zupd_n (by omega)).trans zupd_s)
  have e4 : ∀ a, 1 ≤ a → a < 94 → h4 a = h3 a := fun a z1 z2 => (f4 a z2).trans ((zupd_n (by omega)).trans (zupd_n (by omega)))
  clear f4
  conv => whnf
  refine ⟨_, b4, Nat.le_of_ble_eq_true rfl, ⟨rfl, rfl⟩, ?_⟩
  conv => whnf
  have k0 : ∀ x : zC, ∀ a, 1 ≤ a → a < 94 → zupd h4 0 x a = h3 a := fun x a z1 z2 => (zupd_n (by omega)).trans (e4 a z1 z2)
  obtain ⟨g1, ⟨rf, g2, g3⟩, g4, g5, g6, g7⟩ := S2
  refine H1 _ ⟨zupd_s, s3.eq (fun a z1 z2 => k0 _ a (by omega) (by omega)), ⟨0, (k0 _ 12 (by omega) (by omega)).trans ((e3 12 (by omega) (by omega)).trans g1), ⟨rf, (k0 _ (12 + 1) (by omega) (by omega)).trans ((e3 (12 + 1) (by omega) (by omega)).trans g2), g3⟩, g4, g5, fun i hi => ?_, fun j σ hj => nomatch hj⟩, S3.eq (fun a z1 z2 => k0 _ a (by omega) (by omega)), ⟨zq0, S4.off (lo := 0) (hi := 1) (fun a ha => zupd_n (by omega)) (by omega)⟩, zwA0⟩
  exact (g6 i hi).eq (fun a z1 z2 => (k0 _ a (by omega) (by omega)).trans (e3 a (by omega) (by omega)))
set_option maxRecDepth 100000 in
theorem S_X7_init {C : zK} (hC : zCld 215 zTT C) {h : zH} {n : Nat} {K : zQ} {r : Nat} (hs : h r = .inr (7, [.null, .null, .int 0, .null, .int 0, .int 0, .null, .null, .null, .int 0, .null, .null, .int 0, .null, .null, .null, .int 0, .int 0, .int 0, .int 0, .int 0, .int 0])) (H1 : ∀ h', zY h' r zA0 0 → (∀ a, a < r → h' a = h a) → K 0 none h' (r + 12)) : C 118 [.ref r] h (r + 1) K := by
  refine zd_X7_init hC rfl fun P hgo hF => ?_
  refine hgo [] 100 _ _ _ _ _ _ _ ?_
  conv => whnf
  refine ⟨by decide, by decide, rfl, ?_⟩
  conv => whnf
  refine ⟨_, (zupd_n (by omega)).trans hs, Nat.le_of_ble_eq_true rfl, ⟨rfl, rfl⟩, ?_⟩
  conv => whnf
  refine ⟨by decide, by decide, rfl, ?_⟩
  conv => whnf
  refine ⟨_, (zupd_n (by omega)).trans zupd_s, Nat.le_of_ble_eq_true rfl, ⟨rfl, rfl⟩, ?_⟩
  conv => whnf
  refine ⟨by decide, by decide, rfl, ?_⟩
  conv => whnf
  refine ⟨_, (zupd_n (by omega)).trans zupd_s, Nat.le_of_ble_eq_true rfl, ⟨rfl, rfl⟩, ?_⟩
  conv => whnf
  refine ⟨by decide, by decide, rfl, ?_⟩
  conv => whnf
  refine ⟨_, (zupd_n (by omega)).trans zupd_s, Nat.le_of_ble_eq_true rfl, ⟨rfl, rfl⟩, ?_⟩
  conv => whnf
  refine ⟨by decide, by decide, rfl, ?_⟩
  conv => whnf
  refine ⟨_, (zupd_n (by omega)).trans zupd_s, Nat.le_of_ble_eq_true rfl, ⟨rfl, rfl⟩, ?_⟩
  conv => whnf
  refine ⟨by decide, by decide, rfl, ?_⟩
  conv => whnf
  refine ⟨_, (zupd_n (by omega)).trans zupd_s, Nat.le_of_ble_eq_true rfl, ⟨rfl, rfl⟩, ?_⟩
  conv => whnf
  refine ⟨by decide, by decide, rfl, ?_⟩
  conv => whnf
  refine ⟨_, (zupd_n (by omega)).trans zupd_s, Nat.le_of_ble_eq_true rfl, ⟨rfl, rfl⟩, ?_⟩
  conv => whnf
  refine ⟨by decide, by decide, rfl, ?_⟩
  conv => whnf
  refine ⟨_, (zupd_n (by omega)).trans zupd_s, Nat.le_of_ble_eq_true rfl, ⟨rfl, rfl⟩, ?_⟩
  conv => whnf
  refine ⟨by decide, by decide, rfl, ?_⟩
  conv => whnf
  refine ⟨_, (zupd_n (by omega)).trans zupd_s, Nat.le_of_ble_eq_true rfl, ⟨rfl, rfl⟩, ?_⟩
  conv => whnf
  refine ⟨by decide, by decide, rfl, ?_⟩
  conv => whnf
  refine ⟨_, (zupd_n (by omega)).trans zupd_s, Nat.le_of_ble_eq_true rfl, ⟨rfl, rfl⟩, ?_⟩
  conv => whnf
  refine ⟨by decide, by decide, rfl, ?_⟩
  conv => whnf
  refine ⟨_, (zupd_n (by omega)).trans zupd_s, Nat.le_of_ble_eq_true rfl, ⟨rfl, rfl⟩, ?_⟩
  conv => whnf
  refine ⟨_, zupd_s, Nat.le_of_ble_eq_true rfl, ⟨rfl, rfl⟩, ?_⟩
  conv => whnf
  refine H1 _ ⟨zz0, ⟨⟨zupd_s, zz0, ?_, ?_⟩, ⟨zz0, ?_, (fun j σ hj => nomatch hj)⟩, ⟨zz0, ?_, fun j x hj => nomatch hj⟩, ⟨⟨zz0, ?_⟩, ⟨zz0, ?_⟩, ⟨zz0, ?_⟩, ⟨zz0, ?_⟩, ⟨zz0, ?_⟩, ⟨zz0, ?_⟩, ⟨zz0, ?_⟩, ⟨zz0, ?_⟩⟩, rfl, rfl⟩, rfl⟩ (fun a ha => ?_)
  · rw [zupd_n (by omega), zupd_n (by omega), zupd_n (by omega), zupd_n (by omega), zupd_n (by omega), zupd_n (by omega), zupd_n (by omega), zupd_n (by omega), zupd_n (by omega), zupd_n (by omega), zupd_n (by omega), zupd_n (by omega), zupd_n (by omega), zupd_n (by omega), zupd_n (by omega), zupd_n (by omega), zupd_n (by omega), zupd_n (by omega), zupd_n (by omega), zupd_n (by omega), zupd_n (by omega), zupd_n (by omega)]
    exact zupd_s
  · have hdr : ∀ d, zdr zA0.1 d = [] := fun d => by
      unfold zdr
      split <;> rfl
    refine ⟨rfl, rfl, (fun i v hv => nomatch hv), fun d hd => ?_, (fun k hk => (by decide : (0 : Int32) = -1 + 1)), rfl, rfl, Nat.zero_le _, (fun d => ?_), (fun v hv => nomatch hv), fun d v hv => ?_, Nat.zero_le _⟩
    · rw [hdr]
      exact ⟨rfl, fun j v hv => nomatch hv⟩
    · rw [hdr]
      exact Nat.zero_le _
    · rw [hdr] at hv
      exact nomatch hv
  · rw [zupd_n (by omega), zupd_n (by omega), zupd_n (by omega), zupd_n (by omega), zupd_n (by omega), zupd_n (by omega), zupd_n (by omega), zupd_n (by omega), zupd_n (by omega), zupd_n (by omega), zupd_n (by omega), zupd_n (by omega), zupd_n (by omega), zupd_n (by omega), zupd_n (by omega), zupd_n (by omega), zupd_n (by omega), zupd_n (by omega), zupd_n (by omega), zupd_n (by omega)]
    exact zupd_s
  · rw [zupd_n (by omega), zupd_n (by omega), zupd_n (by omega), zupd_n (by omega), zupd_n (by omega), zupd_n (by omega), zupd_n (by omega), zupd_n (by omega), zupd_n (by omega), zupd_n (by omega), zupd_n (by omega), zupd_n (by omega), zupd_n (by omega), zupd_n (by omega), zupd_n (by omega), zupd_n (by omega), zupd_n (by omega), zupd_n (by omega)]
    exact zupd_s
  · rw [zupd_n (by omega), zupd_n (by omega), zupd_n (by omega), zupd_n (by omega), zupd_n (by omega), zupd_n (by omega), zupd_n (by omega), zupd_n (by omega), zupd_n (by omega), zupd_n (by omega), zupd_n (by omega), zupd_n (by omega), zupd_n (by omega), zupd_n (by omega), zupd_n (by omega), zupd_n (by omega)]
    exact zupd_s
  · rw [zupd_n (by omega), zupd_n (by omega), zupd_n (by omega), zupd_n (by omega), zupd_n (by omega), zupd_n (by omega), zupd_n (by omega), zupd_n (by omega), zupd_n (by omega), zupd_n (by omega), zupd_n (by omega), zupd_n (by omega), zupd_n (by omega), zupd_n (by omega)]
    exact zupd_s
  · rw [zupd_n (by omega), zupd_n (by omega), zupd_n (by omega), zupd_n (by omega), zupd_n (by omega), zupd_n (by omega), zupd_n (by omega), zupd_n (by omega), zupd_n (by omega), zupd_n (by omega), zupd_n (by omega), zupd_n (by omega)]
    exact zupd_s
  · rw [zupd_n (by omega), zupd_n (by omega), zupd_n (by omega), zupd_n (by omega), zupd_n (by omega), zupd_n (by omega), zupd_n (by omega), zupd_n (by omega), zupd_n (by omega), zupd_n (by omega)]
    exact zupd_s
  · rw [zupd_n (by omega), zupd_n (by omega), zupd_n (by omega), zupd_n (by omega), zupd_n (by omega), zupd_n (by omega), zupd_n (by omega), zupd_n (by omega)]
    exact zupd_s
  · rw [zupd_n (by omega), zupd_n (by omega), zupd_n (by omega), zupd_n (by omega), zupd_n (by omega), zupd_n (by omega)]
    exact zupd_s
  · rw [zupd_n (by omega), zupd_n (by omega), zupd_n (by omega), zupd_n (by omega)]
    exact zupd_s
  · rw [zupd_n (by omega), zupd_n (by omega)]
    exact zupd_s
  · rw [zupd_n (by omega), zupd_n (by omega), zupd_n (by omega), zupd_n (by omega), zupd_n (by omega), zupd_n (by omega), zupd_n (by omega), zupd_n (by omega), zupd_n (by omega), zupd_n (by omega), zupd_n (by omega), zupd_n (by omega), zupd_n (by omega), zupd_n (by omega), zupd_n (by omega), zupd_n (by omega), zupd_n (by omega), zupd_n (by omega), zupd_n (by omega), zupd_n (by omega), zupd_n (by omega), zupd_n (by omega), zupd_n (by omega)]

