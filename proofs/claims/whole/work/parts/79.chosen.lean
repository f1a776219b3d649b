/-! The reference: chosen -/
set_option maxRecDepth 100000 in
theorem S_X7_chosen {C : zK} (hC : zCld 215 zTT C) {h : zH} {n : Nat} {K : zQ} {r i k : Nat} {c : Nat → Int32} {σ : zS} {Q : zB} (H : zRr h r c σ) (HQ : zYq h r c Q) (hl : Q.length < 20) (hi : i < 10) (hk : k < 3) (H1 : ∀ h' c', zRr h' r c' σ → zYq h' r c' (Q ++ [(i, k + 1)]) → (∀ j, j ≠ 12 → c' j = c j) → (∀ a, a ≠ r → a ≠ r + 7 → a ≠ r + 8 → h' a = h a) → K 0 (some (.int (zcp σ i k))) h' n) : C 158 [.ref r, .int (nI i), .int (nI (k + 1))] h n K := by
  obtain ⟨b1, f, b2, b3⟩ := id H
  obtain ⟨q1, q2, q3, af, kf, q4, q5, q6⟩ := HQ
  have p5 := b3.2.2.2.2.1
  have p6 := b3.2.2.2.2.2.1
  refine zd_X7_chosen hC rfl fun P hgo hF => ?_
  refine hgo [] 60 _ _ _ _ _ _ _ ?_
  conv => whnf
  refine ⟨_, b1, _, rfl, ?_⟩
  conv => whnf
  refine ⟨_, b1, _, rfl, ?_⟩
  conv => whnf
  rw [q1]
  refine ⟨_, _, q4, vp_in_nI hl (by decide), ?_⟩
  rw [nI_clamp (show Q.length < 2 ^ 31 by omega)]
  conv => whnf
  have d1 : zupd h (r + 7) (.inl (0, 20, .inl (upd af Q.length (nI i)))) r = zRO r c := (zupd_n (by omega)).trans b1
  have d2 : zupd h (r + 7) (.inl (0, 20, .inl (upd af Q.length (nI i)))) (r + 8) = .inl (0, 20, .inl kf) := (zupd_n (by omega)).trans q5
  have d3 := zupd_s (h := h) (a := r + 7) (c := .inl (0, 20, .inl (upd af Q.length (nI i))))
  have d4 : ∀ a, a ≠ r → a ≠ r + 7 → a ≠ r + 8 → zupd h (r + 7) (.inl (0, 20, .inl (upd af Q.length (nI i)))) a = h a := fun a z1 z2 z3 => zupd_n z2
  generalize zupd h (r + 7) (.inl (0, 20, .inl (upd af Q.length (nI i)))) = g2 at d1 d2 d3 d4 ⊢
  refine ⟨_, d1, _, rfl, ?_⟩
  conv => whnf
  refine ⟨_, d1, _, rfl, ?_⟩
  conv => whnf
  rw [q1]
  refine ⟨_, _, d2, vp_in_nI hl (by decide), ?_⟩
  rw [nI_clamp (show Q.length < 2 ^ 31 by omega)]
  conv => whnf
  have e1 : zupd g2 (r + 8) (.inl (0, 20, .inl (upd kf Q.length (nI (k + 1))))) r = zRO r c := (zupd_n (by omega)).trans d1
  have e2 : zupd g2 (r + 8) (.inl (0, 20, .inl (upd kf Q.length (nI (k + 1))))) (r + 7) = .inl (0, 20, .inl (upd af Q.length (nI i))) := (zupd_n (by omega)).trans d3
  have e3 := zupd_s (h := g2) (a := r + 8) (c := .inl (0, 20, .inl (upd kf Q.length (nI (k + 1)))))
  have e4 : ∀ a, a ≠ r → a ≠ r + 7 → a ≠ r + 8 → zupd g2 (r + 8) (.inl (0, 20, .inl (upd kf Q.length (nI (k + 1))))) a = h a := fun a z1 z2 z3 => (zupd_n z3).trans (d4 a z1 z2 z3)
  generalize zupd g2 (r + 8) (.inl (0, 20, .inl (upd kf Q.length (nI (k + 1))))) = g3 at e1 e2 e3 e4 ⊢
  refine ⟨_, e1, _, rfl, ?_⟩
  conv => whnf
  refine ⟨_, e1, Nat.le_of_ble_eq_true rfl, ⟨rfl, rfl⟩, ?_⟩
  conv => whnf
  have u1 : zupd g3 r (zRO r (upd c 12 (c 12 + 1))) r = zRO r (upd c 12 (c 12 + 1)) := zupd_s
  have u2 : zupd g3 r (zRO r (upd c 12 (c 12 + 1))) (r + 1) = .inl (0, 106, .inl f) := (zupd_n (by omega)).trans ((e4 _ (by omega) (by omega) (by omega)).trans b2)
  have G := H1 (zupd g3 r (zRO r (upd c 12 (c 12 + 1)))) (upd c 12 (c 12 + 1)) ⟨u1, f, u2, b3⟩ ⟨by rw [upd_s, q1, List.length_append]; exact nI_1 _, by rw [List.length_append]; exact hl, fun v hv => by
    rcases List.mem_append.mp hv with z | z
    · exact q3 v z
    · rw [List.mem_singleton.mp z]
      exact ⟨hi, Nat.le_add_left 1 k, hk⟩, _, _, (zupd_n (by omega)).trans e2, (zupd_n (by omega)).trans e3, fun j v hv => by
    by_cases c1 : j < Q.length
    · rw [List.getElem?_append_left c1] at hv
      rw [upd_n (by omega), upd_n (by omega)]
      exact q6 j v hv
    · have c3 : j = Q.length := by
        have h9 := (List.getElem?_eq_some_iff.mp hv).1
        rw [List.length_append] at h9
        have e8 : [(i, k + 1)].length = 1 := rfl
        omega
      rw [c3, List.getElem?_append_right (Nat.le_refl _), Nat.sub_self] at hv
      have e7 : (i, k + 1) = v := Option.some.inj hv
      rw [c3, upd_s, upd_s, ← e7]
      exact ⟨rfl, rfl⟩⟩ (fun j hj => upd_n hj) (fun a z1 z2 z3 => (zupd_n z1).trans (e4 a z1 z2 z3))
  refine ⟨_, u1, _, rfl, ?_⟩
  conv => whnf
  rw [show (74 : Int32) + 3 * nI i + nI (k + 1) - 1 = nI (74 + (i * 3 + k)) by
    rw [show (74 : Int32) = nI 74 by decide, show (3 : Int32) = nI 3 by decide, pk_mul, nI_add, nI_add, show 74 + 3 * i + (k + 1) = 74 + (i * 3 + k) + 1 by omega, nI_pred]]
  refine ⟨_, _, u2, vp_in_nI (show 74 + (i * 3 + k) < 106 by omega) (by decide), ?_⟩
  conv => whnf
  rw [nI_clamp (show 74 + (i * 3 + k) < 2 ^ 31 by omega), p5 _ (by omega)]
  unfold zcp at G
  refine ⟨fun q => ?_, fun q => ?_⟩
  · rw [if_neg (fun z => q (zp1.mpr z))] at G
    conv => whnf
    rw [show zch σ (i * 3 + k) + 1 - 1 = zch σ (i * 3 + k) from Int32.add_sub_cancel _ _]
    exact G
  · rw [if_pos (zp1.mp q)] at G
    conv => whnf
    refine ⟨_, u1, _, rfl, ?_⟩
    conv => whnf
    refine ⟨_, _, u2, vp_in_nI (n := 104) (by omega) (by decide), ?_⟩
    conv => whnf
    rw [show (104 : Int32).toNatClampNeg = 104 by decide, p6]
    exact G

