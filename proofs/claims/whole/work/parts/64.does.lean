/-! The reference: edits, shifts, inserts, removes -/
set_option maxRecDepth 100000 in
theorem S_X7_takes {C : zK} (hC : zCld 215 zTT C) {h : zH} {n : Nat} {K : zQ} {r d p : Nat} {c : Nat → Int32} {σ : zS} (H : zRr h r c σ) (hd : d < 2) (hp : p < (zdr σ d).length) (H1 : ∀ h', zRr h' r c (zsd σ d ((zdr σ d).eraseIdx p)) → zOff (r + 1) (r + 2) h h' → K 0 none h' n) : C 134 [.ref r, .int (nI d), .int (nI p)] h n K := by
  obtain ⟨h1, f, h2, h3⟩ := id H
  have hln := H.ln d
  obtain ⟨len, hlen⟩ : ∃ len, (zdr σ d).length = len + 1 := ⟨(zdr σ d).length - 1, by omega⟩
  have hs := (h3.2.2.2.1 d hd).1
  rw [hlen] at hs
  refine S_rawTakes hC h1 h2 hd hs (by omega) (by omega) (fun h' f' g1 g2 g3 o => ?_)
  have hl2 : ((zdr σ d).eraseIdx p).length = len := by
    rw [List.length_eraseIdx_of_lt hp, hlen]
    rfl
  refine H1 h' ⟨g1, f', g2, h3.setd hd (fun w hw => ?_) ?_ (fun j v hv => ?_) (by omega) (fun v hv => H.lt d v (zer_in hv))⟩ o
  · rw [g3]
    unfold ztg
    rw [if_neg (by omega), if_neg (by omega), if_neg (by omega)]
  · rw [g3, hl2]
    exact if_pos rfl
  · have hj := (List.getElem?_eq_some_iff.mp hv).1
    rw [hl2] at hj
    rw [List.getElem?_eraseIdx] at hv
    rw [g3, g3]
    unfold ztg
    by_cases c1 : j < p
    · rw [if_pos c1] at hv
      rw [if_neg (by omega), if_neg (by omega), if_neg (by omega), if_neg (by omega), if_neg (by omega), if_neg (by omega)]
      exact h3.at hd hv
    · rw [if_neg c1] at hv
      rw [if_neg (by omega), if_pos (by omega), if_neg (by omega), if_neg (by omega), if_pos (by omega)]
      have := h3.at hd hv
      rw [show 13 + 31 * d + j + 1 = 13 + 31 * d + (j + 1) by omega, show 28 + 31 * d + j + 1 = 28 + 31 * d + (j + 1) by omega]
      exact this
set_option maxRecDepth 100000 in
theorem S_X7_edits {C : zK} (hC : zCld 215 zTT C) {h : zH} {n : Nat} {K : zQ} {r d p y : Nat} {c : Nat → Int32} {σ : zS} (H : zRr h r c σ) (hd : d < 2) (hp : p < (zdr σ d).length) (hy : y < 1000) (H1 : ∀ h', zRr h' r c (zsd σ d ((zdr σ d).set p (znm (zdr σ d) p, y))) → zOff (r + 1) (r + 2) h h' → K 0 (some (.int (nI (zbc (zdr σ d) p)))) h' n) : C 141 [.ref r, .int (nI d), .int (nI p), .int (nI y)] h n K := by
  obtain ⟨h1, f, h2, h3⟩ := id H
  have hln := H.ln d
  obtain ⟨u, u1, u2, u3, u4⟩ := znm_lt hp
  rw [u3, u4] at H1
  refine zd_X7_edits hC rfl fun P hgo hF => ?_
  refine hgo [] 30 _ _ _ _ _ _ _ ?_
  conv => whnf
  refine ⟨_, h1, ?_⟩
  refine S_X7_insideAt hC H hd u1 ?_
  conv => whnf
  refine ⟨_, h1, _, rfl, ?_⟩
  conv => whnf
  rw [show (16 : Int32) + nI p = nI (16 + p) from nI_add 16 p]
  refine S_X7_at hC ?_
  conv => whnf
  refine ⟨_, _, h2, vp_in_nI (by omega) (by decide), ?_⟩
  rw [nI_clamp (by omega), show 12 + 31 * d + (16 + p) = 28 + 31 * d + p by omega]
  conv => whnf
  have o4 : zOff (r + 1) (r + 2) h (zupd h (r + 1) (.inl (0, 106, .inl (upd f (28 + 31 * d + p) (nI y))))) := zOff.up (Nat.le_refl _) (by omega)
  refine H1 _ ⟨(o4 r (by omega)).trans h1, _, zupd_s, h3.setd hd (fun w hw => upd_n (by omega)) ?_ (fun j v hv => ?_) (by rw [List.length_set]; exact hln) (fun v hv => ?_)⟩ o4
  · rw [upd_n (by omega), (h3.2.2.2.1 d hd).1, List.length_set]
  · have hj := (List.getElem?_eq_some_iff.mp hv).1
    rw [List.length_set] at hj
    rw [List.getElem?_set] at hv
    rw [upd_n (show 13 + 31 * d + j ≠ 28 + 31 * d + p by omega)]
    by_cases c1 : p = j
    · rw [if_pos c1, if_pos (by omega)] at hv
      have e : (u.1, y) = v := Option.some.inj hv
      rw [← e, ← c1, upd_s]
      exact ⟨(h3.at hd u1).1, rfl⟩
    · rw [if_neg c1] at hv
      rw [upd_n (by omega)]
      exact h3.at hd hv
  · rcases List.mem_or_eq_of_mem_set hv with e | e
    · exact H.lt d v e
    · rw [e]
      exact ⟨(H.lt d u u2).1, hy⟩
set_option maxRecDepth 100000 in
theorem S_X7_shifts {C : zK} (hC : zCld 215 zTT C) {h : zH} {n : Nat} {K : zQ} {r d p t : Nat} {c : Nat → Int32} {σ : zS} (H : zRr h r c σ) (hd : d < 2) (hp : p < (zdr σ d).length) (ht : t < (zdr σ d).length) (H1 : ∀ h', zRr h' r c (zsd σ d (((zdr σ d).eraseIdx p).insertIdx t (znm (zdr σ d) p, zbc (zdr σ d) p))) → zOff (r + 1) (r + 2) h h' → K 0 (some (.int (nI (znm (zdr σ d) p)))) h' n) : C 142 [.ref r, .int (nI d), .int (nI p), .int (nI t)] h n K := by
  obtain ⟨h1, f, h2, h3⟩ := id H
  have hln := H.ln d
  obtain ⟨u, u1, u2, u3, u4⟩ := znm_lt hp
  have hub := H.lt d u u2
  rw [u3, u4] at H1
  refine zd_X7_shifts hC rfl fun P hgo hF => ?_
  refine hgo [] 30 _ _ _ _ _ _ _ ?_
  conv => whnf
  refine ⟨_, h1, ?_⟩
  refine S_X7_numberAt hC H hd u1 ?_
  conv => whnf
  refine ⟨_, h1, ?_⟩
  refine S_X7_insideAt hC H hd u1 ?_
  conv => whnf
  refine ⟨_, h1, ?_⟩
  refine S_X7_takes hC H hd hp (fun h2 H2 o2 => ?_)
  have e1 : zdr (zsd σ d ((zdr σ d).eraseIdx p)) d = (zdr σ d).eraseIdx p := (zdr_sd hd d).1 Iff.rfl
  have hl2 : ((zdr σ d).eraseIdx p).length = (zdr σ d).length - 1 := List.length_eraseIdx_of_lt hp
  conv => whnf
  refine ⟨_, H2.ob, ?_⟩
  refine S_X7_puts hC H2 hd (by rw [e1]; omega) (by rw [e1]; omega) hub (fun h3 H3 o3 => ?_)
  rw [e1] at H3
  have e2 : zsd (zsd σ d ((zdr σ d).eraseIdx p)) d (((zdr σ d).eraseIdx p).insertIdx t (u.1, u.2)) = zsd σ d (((zdr σ d).eraseIdx p).insertIdx t (u.1, u.2)) := by
    unfold zsd
    by_cases e : d = 0
    · rw [if_pos e, if_pos e, if_pos e]; rfl
    · rw [if_neg e, if_neg e, if_neg e]; rfl
  rw [e2] at H3
  conv => whnf
  exact H1 h3 H3 (o2.tr o3)
set_option maxRecDepth 100000 in
theorem S_X7_removes {C : zK} (hC : zCld 215 zTT C) {h : zH} {n : Nat} {K : zQ} {r d p : Nat} {c : Nat → Int32} {σ : zS} (H : zRr h r c σ) (hd : d < 2) (hp : p < (zdr σ d).length) (H1 : ∀ h', zRr h' r c (zsd σ d ((zdr σ d).eraseIdx p)) → zOff (r + 1) (r + 2) h h' → K 0 (some (.int (nI (znm (zdr σ d) p)))) h' n) : C 144 [.ref r, .int (nI d), .int (nI p)] h n K := by
  obtain ⟨h1, f, h2, h3⟩ := id H
  obtain ⟨u, u1, u2, u3, u4⟩ := znm_lt hp
  rw [u3] at H1
  refine zd_X7_removes hC rfl fun P hgo hF => ?_
  refine hgo [] 30 _ _ _ _ _ _ _ ?_
  conv => whnf
  refine ⟨_, h1, ?_⟩
  refine S_X7_numberAt hC H hd u1 ?_
  conv => whnf
  refine ⟨_, h1, ?_⟩
  refine S_X7_takes hC H hd hp (fun h2 H2 o2 => ?_)
  conv => whnf
  exact H1 h2 H2 o2
set_option maxRecDepth 100000 in
theorem S_X7_inserts {C : zK} (hC : zCld 215 zTT C) {h : zH} {n : Nat} {K : zQ} {r d p y : Nat} {c : Nat → Int32} {σ : zS} (H : zRr h r c σ) (hu : zus σ < 1000) (hd : d < 2) (hp : p ≤ (zdr σ d).length) (hl : (zdr σ d).length < 15) (hy : y < 1000) (H1 : ∀ h', zRr h' r c (zsd (zba σ, zd0 σ, zd1 σ, zus σ + 1, zpf σ, zac σ, zch σ) d ((zdr σ d).insertIdx p (zus σ, y))) → zOff (r + 1) (r + 2) h h' → K 0 (some (.int (nI (zus σ)))) h' n) : C 143 [.ref r, .int (nI d), .int (nI p), .int (nI y)] h n K := by
  obtain ⟨h1, f, h2, h3⟩ := id H
  refine zd_X7_inserts hC rfl fun P hgo hF => ?_
  refine hgo [] 30 _ _ _ _ _ _ _ ?_
  conv => whnf
  refine ⟨_, h1, _, rfl, ?_⟩
  conv => whnf
  refine ⟨_, _, h2, vp_in_nI (n := 1) (by omega) (by decide), ?_⟩
  conv => whnf
  rw [show (1 : Int32).toNatClampNeg = 1 by decide, h3.2.1]
  refine ⟨_, h1, _, rfl, ?_⟩
  conv => whnf
  refine ⟨_, _, h2, vp_in_nI (n := 1) (by omega) (by decide), ?_⟩
  conv => whnf
  rw [show (1 : Int32).toNatClampNeg = 1 by decide, h3.2.1]
  refine ⟨_, _, h2, vp_in_nI (n := 1) (by omega) (by decide), ?_⟩
  rw [nI_1]
  conv => whnf
  have o4 : zOff (r + 1) (r + 2) h (zupd h (r + 1) (.inl (0, 106, .inl (upd f 1 (nI (zus σ + 1)))))) := zOff.up (Nat.le_refl _) (by omega)
  have H2 : zRr (zupd h (r + 1) (.inl (0, 106, .inl (upd f 1 (nI (zus σ + 1)))))) r c (zba σ, zd0 σ, zd1 σ, zus σ + 1, zpf σ, zac σ, zch σ) := by
    obtain ⟨a1, a2, a3, a4, a5, a6, a7, a8, a9, a10, a11, a12⟩ := h3
    refine ⟨(o4 r (by omega)).trans h1, _, zupd_s, (upd_n (by omega)).trans a1, upd_s, fun i v hv => (upd_n (by omega)).trans (a3 i v hv), fun d' hd' => ?_, fun k hk => (upd_n (by omega)).trans (a5 k hk), (upd_n (by omega)).trans a6, (upd_n (by omega)).trans a7, a8, a9, a10, a11, hu⟩
    obtain ⟨b1, b2⟩ := a4 d' hd'
    exact ⟨(upd_n (by omega)).trans b1, fun j v hv => ⟨(upd_n (by omega)).trans (b2 j v hv).1, (upd_n (by omega)).trans (b2 j v hv).2⟩⟩
  generalize zupd h (r + 1) (.inl (0, 106, .inl (upd f 1 (nI (zus σ + 1))))) = h4 at o4 H2 ⊢
  refine ⟨_, H2.ob, ?_⟩
  refine S_X7_puts hC H2 hd hp hl ⟨hu, hy⟩ (fun h5 H5 o5 => ?_)
  conv => whnf
  exact H1 h5 H5 (o4.tr o5)

