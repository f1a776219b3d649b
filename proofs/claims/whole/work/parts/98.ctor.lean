/-! Constructors -/
def zS0 : zS := ([], [], [], 0, 0, 0, fun _ => -1)
def zz0 : Nat → Int32 := fun _ => 0
set_option maxRecDepth 100000 in
theorem S_newB {C : zK} (hC : zCld 215 zTT C) {h : zH} {n : Nat} {K : zQ} {b a1 a2 : Nat} {c d e : Value} (hb : h b = .inr (0, [d, e, c])) (H1 : ∀ h', h' b = .inr (0, [.ref a1, .ref a2, .int 0]) → (∀ a, a ≠ b → h' a = h a) → K 0 none h' n) : C 0 [.ref b, .ref a1, .ref a2] h n K := by
  refine S_X0_init hC (N := 0) (N' := 0) (f := zz0) (g := zz0) hb ?_
  exact H1 _ zupd_s (fun a ha => by rw [zupd_n ha, zupd_n ha, zupd_n ha])
theorem zx0 {h h' : zH} {b N : Nat} {c1 : zC} (e : h' b = .inr (0, [.ref (b + 1), .ref (b + 2), .int 0])) (o : ∀ a, a ≠ b → h' a = zupd (zupd (zupd h b c1) (b + 1) (.inl (0, N, .inl zz0))) (b + 2) (.inl (0, N, .inl zz0)) a) : zRaw h' b N 0 zz0 zz0 ∧ ∀ a, a < b → h' a = h a := by
  refine ⟨⟨e, ?_, ?_⟩, fun a ha => ?_⟩
  · rw [o _ (by omega), zupd_n (by omega), zupd_s]
  · rw [o _ (by omega), zupd_s]
  · rw [o _ (by omega), zupd_n (by omega), zupd_n (by omega), zupd_n (by omega)]
theorem zRaw.put {h : zH} {b N a : Nat} {c : Int32} {f g : Nat → Int32} {x : zC} (r : zRaw h b N c f g) (ha : a < b ∨ b + 3 ≤ a) : zRaw (zupd h a x) b N c f g := ⟨(zupd_n (by omega)).trans r.1, (zupd_n (by omega)).trans r.2.1, (zupd_n (by omega)).trans r.2.2⟩
theorem zRaw.eq9 {h h' : zH} {b N B : Nat} {c : Int32} {f g : Nat → Int32} (r : zRaw h b N c f g) (o : ∀ a, a < B → h' a = h a) (hb : b + 3 ≤ B) : zRaw h' b N c f g := ⟨(o _ (by omega)).trans r.1, (o _ (by omega)).trans r.2.1, (o _ (by omega)).trans r.2.2⟩
theorem zRaw.nil {h : zH} {b N : Nat} (r : zRaw h b N 0 zz0 zz0) (hN : N ≤ 1000) : zBl h b N [] := zBl.of r rfl (Nat.zero_le _) hN (fun j v hv => nomatch hv) (fun v hv => nomatch hv)
set_option maxRecDepth 100000 in
theorem S_X5_init {C : zK} (hC : zCld 215 zTT C) {h : zH} {n : Nat} {K : zQ} {s : Nat} (hs : h s = .inr (5, [.null, .null, .null, .null, .int 0, .int 0, .int 0])) (H1 : ∀ h', zSta h' s zS0 → (∀ a, a < s → h' a = h a) → K 0 none h' (s + 11)) : C 62 [.ref s] h (s + 1) K := by
  refine zd_X5_init hC rfl fun P hgo hF => ?_
  refine hgo [] 100 _ _ _ _ _ _ _ ?_
  conv => whnf
  refine ⟨rfl, ?_⟩
  conv => whnf
  refine ⟨by decide, by decide, rfl, ?_⟩
  conv => whnf
  refine ⟨by decide, by decide, rfl, ?_⟩
  conv => whnf
  refine ⟨_, (zupd_n (by omega)).trans ((zupd_n (by omega)).trans zupd_s), ?_⟩
  refine S_newB hC ((zupd_n (by omega)).trans ((zupd_n (by omega)).trans zupd_s)) (fun h1 e1 o1 => ?_)
  have x1 := zx0 (b := s + 1) (N := 10) e1 o1
  obtain ⟨r1, f1⟩ := x1
  have b1 := (f1 s (by omega)).trans hs
  have g1 : ∀ a, a < s → h1 a = h a := fun a ha => f1 a (by omega)
  clear e1 o1 f1
  conv => whnf
  refine ⟨_, b1, Nat.le_of_ble_eq_true rfl, ⟨rfl, rfl⟩, ?_⟩
  conv => whnf
  refine ⟨rfl, ?_⟩
  conv => whnf
  refine ⟨by decide, by decide, rfl, ?_⟩
  conv => whnf
  refine ⟨by decide, by decide, rfl, ?_⟩
  conv => whnf
  refine ⟨_, (zupd_n (by omega)).trans ((zupd_n (by omega)).trans zupd_s), ?_⟩
  refine S_newB hC ((zupd_n (by omega)).trans ((zupd_n (by omega)).trans zupd_s)) (fun h2 e2 o2 => ?_)
  have x2 := zx0 (b := s + 4) (N := 15) e2 o2
  obtain ⟨r2, f2⟩ := x2
  have b2 := (f2 s (by omega)).trans zupd_s
  have q1 : zRaw h2 (s + 1) 10 0 zz0 zz0 := (zRaw.put (a := s) r1 (by omega)).eq9 f2 (by omega)
  have g2 : ∀ a, a < s → h2 a = h a := fun a ha => (f2 a (by omega)).trans ((zupd_n (by omega)).trans (g1 a ha))
  clear e2 o2 f2 r1 g1 b1
  conv => whnf
  refine ⟨_, b2, Nat.le_of_ble_eq_true rfl, ⟨rfl, rfl⟩, ?_⟩
  conv => whnf
  refine ⟨rfl, ?_⟩
  conv => whnf
  refine ⟨by decide, by decide, rfl, ?_⟩
  conv => whnf
  refine ⟨by decide, by decide, rfl, ?_⟩
  conv => whnf
  refine ⟨_, (zupd_n (by omega)).trans ((zupd_n (by omega)).trans zupd_s), ?_⟩
  refine S_newB hC ((zupd_n (by omega)).trans ((zupd_n (by omega)).trans zupd_s)) (fun h3 e3 o3 => ?_)
  have x3 := zx0 (b := s + 7) (N := 15) e3 o3
  obtain ⟨r3, f3⟩ := x3
  have b3 := (f3 s (by omega)).trans zupd_s
  have w1 : zRaw h3 (s + 1) 10 0 zz0 zz0 := (zRaw.put (a := s) q1 (by omega)).eq9 f3 (by omega)
  have w2 : zRaw h3 (s + 4) 15 0 zz0 zz0 := (zRaw.put (a := s) r2 (by omega)).eq9 f3 (by omega)
  have g3 : ∀ a, a < s → h3 a = h a := fun a ha => (f3 a (by omega)).trans ((zupd_n (by omega)).trans (g2 a ha))
  clear e3 o3 f3 q1 r2 g2 b2
  conv => whnf
  refine ⟨_, b3, Nat.le_of_ble_eq_true rfl, ⟨rfl, rfl⟩, ?_⟩
  conv => whnf
  refine ⟨by decide, by decide, rfl, ?_⟩
  conv => whnf
  refine ⟨_, (zupd_n (by omega)).trans zupd_s, Nat.le_of_ble_eq_true rfl, ⟨rfl, rfl⟩, ?_⟩
  conv => whnf
  refine ⟨_, zupd_s, Nat.le_of_ble_eq_true rfl, ⟨rfl, rfl⟩, ?_⟩
  conv => whnf
  refine ⟨_, zupd_s, Nat.le_of_ble_eq_true rfl, ⟨rfl, rfl⟩, ?_⟩
  conv => whnf
  refine ⟨_, zupd_s, Nat.le_of_ble_eq_true rfl, ⟨rfl, rfl⟩, ?_⟩
  conv => whnf
  refine ⟨_, zupd_s, _, rfl, ?_⟩
  conv => whnf
  refine S_JA_fill hC (a := s + 10) (k := 30) (f := zz0) ?_ (by decide) (fun h9 f9 y1 y2 y3 => ?_)
  · rw [zupd_n (by omega), zupd_n (by omega), zupd_n (by omega), zupd_n (by omega)]
    exact zupd_s
  have bk : ∀ a, a ≠ s → a ≠ s + 10 → h9 a = h3 a := fun a z1 z2 => by
    rw [y3 a (by omega), zupd_n z1, zupd_n z1, zupd_n z1, zupd_n z1, zupd_n (by omega), zupd_n z1]
  have b9 := (y3 s (by omega)).trans zupd_s
  have e9 : ∀ {b N : Nat}, zRaw h3 b N 0 zz0 zz0 → s < b → b + 3 ≤ s + 10 → zRaw h9 b N 0 zz0 zz0 := fun r z1 z2 => ⟨(bk _ (by omega) (by omega)).trans r.1, (bk _ (by omega) (by omega)).trans r.2.1, (bk _ (by omega) (by omega)).trans r.2.2⟩
  have G := H1 h9 ⟨b9, (e9 w1 (by omega) (by omega)).nil (by decide), (e9 w2 (by omega) (by omega)).nil (by decide), (e9 r3 (by omega) (by omega)).nil (by decide), ⟨f9, y1, y2⟩, Nat.zero_le _⟩ (fun a ha => (bk a (by omega) (by omega)).trans (g3 a ha))
  conv => whnf
  exact G
set_option maxRecDepth 100000 in
theorem S_X1_init {C : zK} (hC : zCld 215 zTT C) {h : zH} {n : Nat} {K : zQ} {t : Nat} (hs : h t = .inr (1, [.null, .int 0, .int 0, .int 0, .int 0, .int 0, .int 0])) (H1 : ∀ h', zTx h' t [] zq0 → (∀ a, a < t → h' a = h a) → K 0 none h' (t + 2)) : C 16 [.ref t] h (t + 1) K := by
  refine zd_X1_init hC rfl fun P hgo hF => ?_
  refine hgo [] 100 _ _ _ _ _ _ _ ?_
  conv => whnf
  refine ⟨by decide, by decide, rfl, ?_⟩
  conv => whnf
  refine ⟨_, (zupd_n (by omega)).trans hs, Nat.le_of_ble_eq_true rfl, ⟨rfl, rfl⟩, ?_⟩
  conv => whnf
  refine ⟨_, zupd_s, Nat.le_of_ble_eq_true rfl, ⟨rfl, rfl⟩, ?_⟩
  conv => whnf
  refine ⟨_, zupd_s, Nat.le_of_ble_eq_true rfl, ⟨rfl, rfl⟩, ?_⟩
  conv => whnf
  refine ⟨_, zupd_s, Nat.le_of_ble_eq_true rfl, ⟨rfl, rfl⟩, ?_⟩
  conv => whnf
  refine ⟨_, zupd_s, Nat.le_of_ble_eq_true rfl, ⟨rfl, rfl⟩, ?_⟩
  conv => whnf
  refine ⟨_, zupd_s, Nat.le_of_ble_eq_true rfl, ⟨rfl, rfl⟩, ?_⟩
  conv => whnf
  refine ⟨_, zupd_s, Nat.le_of_ble_eq_true rfl, ⟨rfl, rfl⟩, ?_⟩
  conv => whnf
  refine H1 _ ⟨zupd_s, ⟨zz0, ?_, fun j c hc => nomatch hc⟩, Nat.zero_le _⟩ (fun a ha => ?_)
  · rw [zupd_n (by omega), zupd_n (by omega), zupd_n (by omega), zupd_n (by omega), zupd_n (by omega), zupd_n (by omega), zupd_n (by omega)]
    exact zupd_s
  · rw [zupd_n (by omega), zupd_n (by omega), zupd_n (by omega), zupd_n (by omega), zupd_n (by omega), zupd_n (by omega), zupd_n (by omega), zupd_n (by omega)]
set_option maxRecDepth 100000 in
theorem S_X2_init {C : zK} (hC : zCld 215 zTT C) {h : zH} {n : Nat} {K : zQ} {d : Nat} (hs : h d = .inr (2, [.null, .null])) (H1 : ∀ h', zDc h' d zz0 zz0 → (∀ a, a < d → h' a = h a) → K 0 none h' (d + 3)) : C 30 [.ref d] h (d + 1) K := by
  refine zd_X2_init hC rfl fun P hgo hF => ?_
  refine hgo [] 100 _ _ _ _ _ _ _ ?_
  conv => whnf
  refine ⟨by decide, by decide, rfl, ?_⟩
  conv => whnf
  refine ⟨_, (zupd_n (by omega)).trans hs, Nat.le_of_ble_eq_true rfl, ⟨rfl, rfl⟩, ?_⟩
  conv => whnf
  refine ⟨by decide, by decide, rfl, ?_⟩
  conv => whnf
  refine ⟨_, (zupd_n (by omega)).trans zupd_s, Nat.le_of_ble_eq_true rfl, ⟨rfl, rfl⟩, ?_⟩
  conv => whnf
  refine H1 _ ⟨zupd_s, ?_, ?_⟩ (fun a ha => ?_)
  · rw [zupd_n (by omega), zupd_n (by omega), zupd_n (by omega)]
    exact zupd_s
  · rw [zupd_n (by omega)]
    exact zupd_s
  · rw [zupd_n (by omega), zupd_n (by omega), zupd_n (by omega), zupd_n (by omega)]

