/-! The reference: lays, the method -/
set_option maxRecDepth 100000 in
theorem S_X7_lays {C : zK} (hC : zCld 215 zTT C) {h : zH} {n : Nat} {K : zQ} {r p x y : Nat} {c : Nat → Int32} {M : zB} (H : zYm h r c M) (hp : p ≤ M.length) (hl : M.length < 30) (hx : x < 1000 ∧ y < 1000) (hno : ∀ v ∈ M, v.1 ≠ x) (H1 : ∀ h' c', zYm h' r c' (M.insertIdx p (x, y)) → (∀ i, i ≠ 9 → c' i = c i) → (∀ a, a ≠ r → a ≠ r + 5 → a ≠ r + 6 → h' a = h a) → K 0 none h' n) : C 162 [.ref r, .int (nI p), .int (nI x), .int (nI y)] h n K := by
  obtain ⟨h1, h2, h3, h4, h5, mf, nf, h6, h7, h8⟩ := H
  refine zd_X7_lays hC rfl fun P hgo hF => ?_
  have loop : ∀ e k (g : zH) (m3 n3 : Nat → Int32), k = p + e → k ≤ M.length → g r = zRO r c → g (r + 5) = .inl (0, 30, .inl m3) → g (r + 6) = .inl (0, 30, .inl n3) → (∀ w, m3 w = zlg mf M.length k w) → (∀ w, n3 w = zlg nf M.length k w) → (∀ a, a ≠ r → a ≠ r + 5 → a ≠ r + 6 → g a = h a) → P 6 [some (.ref r), some (.int (nI p)), some (.int (nI x)), some (.int (nI y)), some (.int (nI k))] [] g n 0 0 := by
    intro e
    induction e with
    | zero =>
      intro k g m3 n3 hk hkl a1 a2 a3 a4 a5 a6
      have hkp : k = p := by omega
      rw [hkp] at a4 a5 ⊢
      refine hgo [6] 60 _ _ _ _ _ _ _ ?_
      conv => whnf
      refine ⟨fun _ => ?_, fun q => absurd (nI_le (Nat.le_refl p) (show p < 2 ^ 31 by omega)) q⟩
      conv => whnf
      refine ⟨_, a1, _, rfl, ?_⟩
      conv => whnf
      refine ⟨_, _, a2, vp_in_nI (show p < 30 by omega) (by decide), ?_⟩
      rw [nI_clamp (show p < 2 ^ 31 by omega)]
      conv => whnf
      have b1 : zupd g (r + 5) (.inl (0, 30, .inl (upd m3 p (nI x)))) r = zRO r c := (zupd_n (by omega)).trans a1
      have b2 := zupd_s (h := g) (a := r + 5) (c := .inl (0, 30, .inl (upd m3 p (nI x))))
      have b3 : zupd g (r + 5) (.inl (0, 30, .inl (upd m3 p (nI x)))) (r + 6) = .inl (0, 30, .inl n3) := (zupd_n (by omega)).trans a3
      have b6 : ∀ a, a ≠ r → a ≠ r + 5 → a ≠ r + 6 → zupd g (r + 5) (.inl (0, 30, .inl (upd m3 p (nI x)))) a = h a := fun a z1 z2 z3 => (zupd_n z2).trans (a6 a z1 z2 z3)
      generalize zupd g (r + 5) (.inl (0, 30, .inl (upd m3 p (nI x)))) = g2 at b1 b2 b3 b6 ⊢
      refine ⟨_, b1, _, rfl, ?_⟩
      conv => whnf
      refine ⟨_, _, b3, vp_in_nI (show p < 30 by omega) (by decide), ?_⟩
      rw [nI_clamp (show p < 2 ^ 31 by omega)]
      conv => whnf
      have d1 : zupd g2 (r + 6) (.inl (0, 30, .inl (upd n3 p (nI y)))) r = zRO r c := (zupd_n (by omega)).trans b1
      have d2 : zupd g2 (r + 6) (.inl (0, 30, .inl (upd n3 p (nI y)))) (r + 5) = .inl (0, 30, .inl (upd m3 p (nI x))) := (zupd_n (by omega)).trans b2
      have d3 := zupd_s (h := g2) (a := r + 6) (c := .inl (0, 30, .inl (upd n3 p (nI y))))
      have d6 : ∀ a, a ≠ r → a ≠ r + 5 → a ≠ r + 6 → zupd g2 (r + 6) (.inl (0, 30, .inl (upd n3 p (nI y)))) a = h a := fun a z1 z2 z3 => (zupd_n z3).trans (b6 a z1 z2 z3)
      generalize zupd g2 (r + 6) (.inl (0, 30, .inl (upd n3 p (nI y)))) = g3 at d1 d2 d3 d6 ⊢
      refine ⟨_, d1, _, rfl, ?_⟩
      conv => whnf
      refine ⟨_, d1, Nat.le_of_ble_eq_true rfl, ⟨rfl, rfl⟩, ?_⟩
      conv => whnf
      show K 0 none (zupd g3 r (zRO r (upd c 9 (c 9 + 1)))) n
      have k1 := zlg_at (f := mf) (f' := upd m3 p (nI x)) (u := (x, y)) (g := fun v => nI v.1) hp (fun j v hv => (h8 j v hv).1) (fun w => by
        by_cases e1 : w = p
        · rw [e1, upd_s, upd_s]
        · rw [upd_n e1, upd_n e1, a4])
      have k2 := zlg_at (f := nf) (f' := upd n3 p (nI y)) (u := (x, y)) (g := fun v => nI v.2) hp (fun j v hv => (h8 j v hv).2) (fun w => by
        by_cases e1 : w = p
        · rw [e1, upd_s, upd_s]
        · rw [upd_n e1, upd_n e1, a5])
      refine H1 _ (upd c 9 (c 9 + 1)) ⟨zupd_s, ?_, ?_, fun v hv => ?_, znod_ins hp h5 hno, _, _, (zupd_n (by omega)).trans d2, (zupd_n (by omega)).trans d3, fun j v hv => ⟨k1 j v hv, k2 j v hv⟩⟩ (fun i hi => upd_n hi) (fun a z1 z2 z3 => (zupd_n z1).trans (d6 a z1 z2 z3))
      · rw [upd_s, h2, List.length_insertIdx_of_le_length hp, nI_1]
      · rw [List.length_insertIdx_of_le_length hp]
        omega
      · rcases (zmem_ins hp).mp hv with z | z
        · rw [z]; exact hx
        · exact h4 v z
    | succ e ih =>
      intro k g m3 n3 hk hkl a1 a2 a3 a4 a5 a6
      obtain ⟨m, hm⟩ : ∃ m, k = m + 1 := ⟨p + e, by omega⟩
      rw [hm] at a4 a5 hk hkl ⊢
      refine hgo [6] 60 _ _ _ _ _ _ _ ?_
      conv => whnf
      refine ⟨fun q => absurd q (nI_ge (show p < m + 1 by omega) (by omega)), fun _ => ?_⟩
      conv => whnf
      refine ⟨_, a1, _, rfl, ?_⟩
      conv => whnf
      refine ⟨_, a1, _, rfl, ?_⟩
      conv => whnf
      rw [show nI (m + 1) - 1 = nI m from nI_pred m]
      refine ⟨_, _, a2, vp_in_nI (show m < 30 by omega) (by decide), ?_⟩
      conv => whnf
      rw [nI_clamp (show m < 2 ^ 31 by omega)]
      refine ⟨_, _, a2, vp_in_nI (show m + 1 < 30 by omega) (by decide), ?_⟩
      rw [nI_clamp (show m + 1 < 2 ^ 31 by omega)]
      conv => whnf
      have b1 : zupd g (r + 5) (.inl (0, 30, .inl (upd m3 (m + 1) (m3 m)))) r = zRO r c := (zupd_n (by omega)).trans a1
      have b2 := zupd_s (h := g) (a := r + 5) (c := .inl (0, 30, .inl (upd m3 (m + 1) (m3 m))))
      have b3 : zupd g (r + 5) (.inl (0, 30, .inl (upd m3 (m + 1) (m3 m)))) (r + 6) = .inl (0, 30, .inl n3) := (zupd_n (by omega)).trans a3
      have b6 : ∀ a, a ≠ r → a ≠ r + 5 → a ≠ r + 6 → zupd g (r + 5) (.inl (0, 30, .inl (upd m3 (m + 1) (m3 m)))) a = h a := fun a z1 z2 z3 => (zupd_n z2).trans (a6 a z1 z2 z3)
      generalize zupd g (r + 5) (.inl (0, 30, .inl (upd m3 (m + 1) (m3 m)))) = g2 at b1 b2 b3 b6 ⊢
      refine ⟨_, b1, _, rfl, ?_⟩
      conv => whnf
      refine ⟨_, b1, _, rfl, ?_⟩
      conv => whnf
      rw [show nI (m + 1) - 1 = nI m from nI_pred m]
      refine ⟨_, _, b3, vp_in_nI (show m < 30 by omega) (by decide), ?_⟩
      conv => whnf
      rw [nI_clamp (show m < 2 ^ 31 by omega)]
      refine ⟨_, _, b3, vp_in_nI (show m + 1 < 30 by omega) (by decide), ?_⟩
      rw [nI_clamp (show m + 1 < 2 ^ 31 by omega)]
      conv => whnf
      have k9 := ih m (zupd g2 (r + 6) (.inl (0, 30, .inl (upd n3 (m + 1) (n3 m))))) _ _ (by omega) (by omega) ((zupd_n (by omega)).trans b1) ((zupd_n (by omega)).trans b2) zupd_s (zlg_s hkl a4) (zlg_s hkl a5) (fun a z1 z2 z3 => (zupd_n z3).trans (b6 a z1 z2 z3))
      rw [← zdec (j := m)] at k9
      exact k9
  refine hgo [6] 60 _ _ _ _ _ _ _ ?_
  conv => whnf
  refine ⟨_, h1, _, rfl, ?_⟩
  conv => whnf
  rw [h2]
  exact loop (M.length - p) M.length h mf nf (by omega) (Nat.le_refl _) h1 h6 h7 (fun w => by
    unfold zlg
    rw [if_neg (by omega)]) (fun w => by
    unfold zlg
    rw [if_neg (by omega)]) (fun a _ _ _ => rfl)

