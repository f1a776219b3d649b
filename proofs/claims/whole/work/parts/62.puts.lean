/-! The reference: changing its row -/
set_option maxRecDepth 100000 in
theorem S_rawS {C : zK} (hC : zCld 215 zTT C) {h : zH} {n : Nat} {K : zQ} {r d : Nat} {c f : Nat → Int32} (h1 : h r = zRO r c) (h2 : h (r + 1) = .inl (0, 106, .inl f)) (hd : d < 2) (H1 : K 0 (some (.int (f (12 + 31 * d)))) h n) : C 125 [.ref r, .int (nI d)] h n K := by
  refine zd_X7_sizeOf hC rfl fun P hgo hF => ?_
  refine hgo [] 20 _ _ _ _ _ _ _ ?_
  conv => whnf
  refine ⟨_, h1, _, rfl, ?_⟩
  conv => whnf
  refine S_X7_at hC (w := 0) ?_
  conv => whnf
  refine ⟨_, _, h2, vp_in_nI (by omega) (by decide), ?_⟩
  conv => whnf
  rw [nI_clamp (by omega), Nat.add_zero]
  exact H1
set_option maxRecDepth 100000 in
theorem S_rawN {C : zK} (hC : zCld 215 zTT C) {h : zH} {n : Nat} {K : zQ} {r d j : Nat} {c f : Nat → Int32} (h1 : h r = zRO r c) (h2 : h (r + 1) = .inl (0, 106, .inl f)) (hd : d < 2) (hj : j < 15) (H1 : K 0 (some (.int (f (13 + 31 * d + j)))) h n) : C 126 [.ref r, .int (nI d), .int (nI j)] h n K := by
  refine zd_X7_numberAt hC rfl fun P hgo hF => ?_
  refine hgo [] 20 _ _ _ _ _ _ _ ?_
  conv => whnf
  refine ⟨_, h1, _, rfl, ?_⟩
  conv => whnf
  rw [show (1 : Int32) + nI j = nI (1 + j) from nI_add 1 j]
  refine S_X7_at hC ?_
  conv => whnf
  refine ⟨_, _, h2, vp_in_nI (by omega) (by decide), ?_⟩
  conv => whnf
  rw [nI_clamp (by omega), show 12 + 31 * d + (1 + j) = 13 + 31 * d + j by omega]
  exact H1
set_option maxRecDepth 100000 in
theorem S_rawI {C : zK} (hC : zCld 215 zTT C) {h : zH} {n : Nat} {K : zQ} {r d j : Nat} {c f : Nat → Int32} (h1 : h r = zRO r c) (h2 : h (r + 1) = .inl (0, 106, .inl f)) (hd : d < 2) (hj : j < 15) (H1 : K 0 (some (.int (f (28 + 31 * d + j)))) h n) : C 127 [.ref r, .int (nI d), .int (nI j)] h n K := by
  refine zd_X7_insideAt hC rfl fun P hgo hF => ?_
  refine hgo [] 20 _ _ _ _ _ _ _ ?_
  conv => whnf
  refine ⟨_, h1, _, rfl, ?_⟩
  conv => whnf
  rw [show (16 : Int32) + nI j = nI (16 + j) from nI_add 16 j]
  refine S_X7_at hC ?_
  conv => whnf
  refine ⟨_, _, h2, vp_in_nI (by omega) (by decide), ?_⟩
  conv => whnf
  rw [nI_clamp (by omega), show 12 + 31 * d + (16 + j) = 28 + 31 * d + j by omega]
  exact H1
/-- the row when the blocks from k + 1 on have moved one place on -/
def zpg (f : Nat → Int32) (d len k : Nat) : Nat → Int32 := fun w => if 13 + 31 * d + k < w ∧ w ≤ 13 + 31 * d + len then f (w - 1) else if 28 + 31 * d + k < w ∧ w ≤ 28 + 31 * d + len then f (w - 1) else f w
/-- .. and the new block stands at p -/
def zpgF (f : Nat → Int32) (d len p : Nat) (x y : Int32) : Nat → Int32 := fun w => if w = 12 + 31 * d then f w + 1 else if w = 13 + 31 * d + p then x else if w = 28 + 31 * d + p then y else zpg f d len p w
set_option maxRecDepth 100000 in
theorem S_rawPuts {C : zK} (hC : zCld 215 zTT C) {h : zH} {n : Nat} {K : zQ} {r d p len : Nat} {x y : Int32} {c f : Nat → Int32} (h1 : h r = zRO r c) (h2 : h (r + 1) = .inl (0, 106, .inl f)) (hd : d < 2) (hs : f (12 + 31 * d) = nI len) (hl : len < 15) (hp : p ≤ len) (H1 : ∀ h' f', h' r = zRO r c → h' (r + 1) = .inl (0, 106, .inl f') → (∀ w, f' w = zpgF f d len p x y w) → zOff (r + 1) (r + 2) h h' → K 0 none h' n) : C 133 [.ref r, .int (nI d), .int (nI p), .int x, .int y] h n K := by
  refine zd_X7_puts hC rfl fun P hgo hF => ?_
  have loop : ∀ e k (h3 : zH) (f3 : Nat → Int32), k = p + e → k ≤ len → h3 r = zRO r c → h3 (r + 1) = .inl (0, 106, .inl f3) → (∀ w, f3 w = zpg f d len k w) → zOff (r + 1) (r + 2) h h3 → P 7 [some (.ref r), some (.int (nI d)), some (.int (nI p)), some (.int x), some (.int y), some (.int (nI k))] [] h3 n 0 0 := by
    intro e
    induction e with
    | zero =>
      intro k h3 f3 hk hkl a1 a2 a3 o3
      have hkp : k = p := by omega
      rw [hkp] at a3
      refine hgo [7] 60 _ _ _ _ _ _ _ ?_
      conv => whnf
      refine ⟨fun _ => ?_, fun q => absurd (nI_le (show k ≤ p by omega) (show p < 2 ^ 31 by omega)) q⟩
      conv => whnf
      refine ⟨_, a1, _, rfl, ?_⟩
      conv => whnf
      rw [show (1 : Int32) + nI p = nI (1 + p) from nI_add 1 p]
      refine S_X7_at hC ?_
      conv => whnf
      refine ⟨_, _, a2, vp_in_nI (by omega) (by decide), ?_⟩
      rw [nI_clamp (by omega), show 12 + 31 * d + (1 + p) = 13 + 31 * d + p by omega]
      conv => whnf
      have o4 : zOff (r + 1) (r + 2) h3 (zupd h3 (r + 1) (.inl (0, 106, .inl (upd f3 (13 + 31 * d + p) x)))) := zOff.up (Nat.le_refl _) (by omega)
      have b1 := (o4 r (by omega)).trans a1
      have b2 := zupd_s (h := h3) (a := r + 1) (c := .inl (0, 106, .inl (upd f3 (13 + 31 * d + p) x)))
      generalize zupd h3 (r + 1) (.inl (0, 106, .inl (upd f3 (13 + 31 * d + p) x))) = h4 at o4 b1 b2 ⊢
      refine ⟨_, b1, _, rfl, ?_⟩
      conv => whnf
      rw [show (16 : Int32) + nI p = nI (16 + p) from nI_add 16 p]
      refine S_X7_at hC ?_
      conv => whnf
      refine ⟨_, _, b2, vp_in_nI (by omega) (by decide), ?_⟩
      rw [nI_clamp (by omega), show 12 + 31 * d + (16 + p) = 28 + 31 * d + p by omega]
      conv => whnf
      have o5 : zOff (r + 1) (r + 2) h4 (zupd h4 (r + 1) (.inl (0, 106, .inl (upd (upd f3 (13 + 31 * d + p) x) (28 + 31 * d + p) y)))) := zOff.up (Nat.le_refl _) (by omega)
      have c1 := (o5 r (by omega)).trans b1
      have c2 := zupd_s (h := h4) (a := r + 1) (c := .inl (0, 106, .inl (upd (upd f3 (13 + 31 * d + p) x) (28 + 31 * d + p) y)))
      generalize zupd h4 (r + 1) (.inl (0, 106, .inl (upd (upd f3 (13 + 31 * d + p) x) (28 + 31 * d + p) y))) = h5 at o5 c1 c2 ⊢
      refine ⟨_, c1, _, rfl, ?_⟩
      conv => whnf
      refine S_X7_at hC (w := 0) ?_
      conv => whnf
      refine ⟨_, _, c2, vp_in_nI (by omega) (by decide), ?_⟩
      rw [nI_clamp (by omega), Nat.add_zero]
      conv => whnf
      refine ⟨_, _, c2, vp_in_nI (by omega) (by decide), ?_⟩
      rw [nI_clamp (by omega)]
      conv => whnf
      have o6 : zOff (r + 1) (r + 2) h5 (zupd h5 (r + 1) (.inl (0, 106, .inl (upd (upd (upd f3 (13 + 31 * d + p) x) (28 + 31 * d + p) y) (12 + 31 * d) (upd (upd f3 (13 + 31 * d + p) x) (28 + 31 * d + p) y (12 + 31 * d) + 1))))) := zOff.up (Nat.le_refl _) (by omega)
      refine H1 _ _ ((o6 r (by omega)).trans c1) zupd_s (fun w => ?_) (((o3.tr o4).tr o5).tr o6)
      unfold zpgF
      by_cases e1 : w = 12 + 31 * d
      · rw [if_pos e1, e1, upd_s, upd_n (by omega), upd_n (by omega), a3]
        unfold zpg
        rw [if_neg (by omega), if_neg (by omega)]
      · rw [if_neg e1, upd_n e1]
        by_cases e2 : w = 28 + 31 * d + p
        · rw [e2, upd_s, if_neg (by omega), if_pos rfl]
        · rw [upd_n e2]
          by_cases e3 : w = 13 + 31 * d + p
          · rw [e3, upd_s, if_pos rfl]
          · rw [upd_n e3, if_neg e3, if_neg e2, a3]
    | succ e ih =>
      intro k h3 f3 hk hkl a1 a2 a3 o3
      obtain ⟨m, hm⟩ : ∃ m, k = m + 1 := ⟨p + e, by omega⟩
      rw [hm] at a3 hk hkl ⊢
      refine hgo [7] 60 _ _ _ _ _ _ _ ?_
      conv => whnf
      refine ⟨fun q => absurd q (nI_ge (show p < m + 1 by omega) (by omega)), fun _ => ?_⟩
      conv => whnf
      refine ⟨_, a1, _, rfl, ?_⟩
      conv => whnf
      rw [show (1 : Int32) + nI (m + 1) = nI (1 + (m + 1)) from nI_add 1 (m + 1)]
      refine S_X7_at hC ?_
      conv => whnf
      refine ⟨_, a1, ?_⟩
      rw [show nI (m + 1) - 1 = nI m from nI_pred m]
      refine S_rawN hC a1 a2 hd (by omega) ?_
      conv => whnf
      refine ⟨_, _, a2, vp_in_nI (by omega) (by decide), ?_⟩
      rw [nI_clamp (by omega), show 12 + 31 * d + (1 + (m + 1)) = 13 + 31 * d + (m + 1) by omega]
      conv => whnf
      have o4 : zOff (r + 1) (r + 2) h3 (zupd h3 (r + 1) (.inl (0, 106, .inl (upd f3 (13 + 31 * d + (m + 1)) (f3 (13 + 31 * d + m)))))) := zOff.up (Nat.le_refl _) (by omega)
      have b1 := (o4 r (by omega)).trans a1
      have b2 := zupd_s (h := h3) (a := r + 1) (c := .inl (0, 106, .inl (upd f3 (13 + 31 * d + (m + 1)) (f3 (13 + 31 * d + m)))))
      generalize zupd h3 (r + 1) (.inl (0, 106, .inl (upd f3 (13 + 31 * d + (m + 1)) (f3 (13 + 31 * d + m))))) = h4 at o4 b1 b2 ⊢
      refine ⟨_, b1, _, rfl, ?_⟩
      conv => whnf
      rw [show (16 : Int32) + nI (m + 1) = nI (16 + (m + 1)) from nI_add 16 (m + 1)]
      refine S_X7_at hC ?_
      conv => whnf
      refine ⟨_, b1, ?_⟩
      rw [show nI (m + 1) - 1 = nI m from nI_pred m]
      refine S_rawI hC b1 b2 hd (by omega) ?_
      conv => whnf
      refine ⟨_, _, b2, vp_in_nI (by omega) (by decide), ?_⟩
      rw [nI_clamp (by omega), show 12 + 31 * d + (16 + (m + 1)) = 28 + 31 * d + (m + 1) by omega, upd_n (show 28 + 31 * d + m ≠ 13 + 31 * d + (m + 1) by omega)]
      conv => whnf
      have o5 : zOff (r + 1) (r + 2) h4 (zupd h4 (r + 1) (.inl (0, 106, .inl (upd (upd f3 (13 + 31 * d + (m + 1)) (f3 (13 + 31 * d + m))) (28 + 31 * d + (m + 1)) (f3 (28 + 31 * d + m)))))) := zOff.up (Nat.le_refl _) (by omega)
      have k9 := ih m _ _ (by omega) (by omega) ((o5 r (by omega)).trans b1) zupd_s (fun w => by
        by_cases e2 : w = 28 + 31 * d + (m + 1)
        · rw [e2, upd_s, a3]
          unfold zpg
          rw [if_neg (by omega), if_neg (by omega), if_neg (by omega), if_pos (by omega)]
          rfl
        · rw [upd_n e2]
          by_cases e3 : w = 13 + 31 * d + (m + 1)
          · rw [e3, upd_s, a3]
            unfold zpg
            rw [if_neg (by omega), if_neg (by omega), if_pos (by omega)]
            rfl
          · rw [upd_n e3, a3]
            unfold zpg
            by_cases e4 : 13 + 31 * d + m < w ∧ w ≤ 13 + 31 * d + len
            · rw [if_pos e4, if_pos (by omega)]
            · rw [if_neg e4, if_neg (by omega)]
              by_cases e5 : 28 + 31 * d + m < w ∧ w ≤ 28 + 31 * d + len
              · rw [if_pos e5, if_pos (by omega)]
              · rw [if_neg e5, if_neg (by omega)]) ((o3.tr o4).tr o5)
      rw [← zdec (j := m)] at k9
      exact k9
  refine hgo [7] 60 _ _ _ _ _ _ _ ?_
  conv => whnf
  refine ⟨_, h1, ?_⟩
  refine S_rawS hC h1 h2 hd ?_
  rw [hs]
  conv => whnf
  exact loop (len - p) len h f (by omega) (Nat.le_refl _) h1 h2 (fun w => by
    unfold zpg
    rw [if_neg (by omega), if_neg (by omega)]) zOff.rf

