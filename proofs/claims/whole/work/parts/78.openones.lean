/-! The reference: openOnes -/
/-- the reference's conflicts -/
def zYq (h : zH) (r : Nat) (c : Nat → Int32) (Q : zB) : Prop := c 12 = nI Q.length ∧ Q.length ≤ 20 ∧ (∀ v ∈ Q, v.1 < 10 ∧ 1 ≤ v.2 ∧ v.2 ≤ 3) ∧ ∃ af kf : Nat → Int32, h (r + 7) = .inl (0, 20, .inl af) ∧ h (r + 8) = .inl (0, 20, .inl kf) ∧ ∀ j v, Q[j]? = some v → af j = nI v.1 ∧ kf j = nI v.2
theorem zp1 {x : Int32} : x + 1 = 0 ↔ x = -1 := by
  constructor
  · intro e
    have h1 : x + 1 + -1 = 0 + -1 := by rw [e]
    rw [Int32.add_assoc, show (1 : Int32) + -1 = 0 by decide, Int32.add_zero, Int32.zero_add] at h1
    exact h1
  · intro e
    rw [e]
    decide
set_option maxRecDepth 100000 in
theorem S_X7_openOnes {C : zK} (hC : zCld 215 zTT C) {h : zH} {n : Nat} {K : zQ} {r : Nat} {c : Nat → Int32} {σ : zS} {Q : zB} (H : zRr h r c σ) (HQ : zYq h r c Q) (H1 : K 0 (some (.int (nI (zopn σ Q)))) h n) : C 173 [.ref r] h n K := by
  obtain ⟨b1, f, b2, b3⟩ := id H
  obtain ⟨q1, q2, q3, af, kf, q4, q5, q6⟩ := HQ
  have p5 := b3.2.2.2.2.1
  refine zd_X7_openOnes hC rfl fun P hgo hF => ?_
  have loop : ∀ e k, k + e = Q.length → P 4 [some (.ref r), some (.int (nI (zopn σ (Q.take k)))), some (.int (nI k))] [] h n 0 0 := by
    intro e
    induction e with
    | zero =>
      intro k hk
      refine hgo [4] 40 _ _ _ _ _ _ _ ?_
      conv => whnf
      refine ⟨_, b1, _, rfl, ?_⟩
      conv => whnf
      rw [q1]
      refine ⟨fun _ => ?_, fun q => absurd (nI_le (show Q.length ≤ k by omega) (show k < 2 ^ 31 by omega)) q⟩
      conv => whnf
      rw [List.take_of_length_le (by omega)]
      exact H1
    | succ e ih =>
      intro k hk
      obtain ⟨v, hv⟩ : ∃ v, Q[k]? = some v := ⟨Q[k], List.getElem?_eq_getElem (by omega)⟩
      obtain ⟨v1, v2, v3⟩ := q3 v (List.mem_of_getElem? hv)
      have k9 := ih (k + 1) (by omega)
      rw [← zinc (j := k), zopn_s hv] at k9
      refine hgo [4] 60 _ _ _ _ _ _ _ ?_
      conv => whnf
      refine ⟨_, b1, _, rfl, ?_⟩
      conv => whnf
      rw [q1]
      refine ⟨fun q => absurd q (nI_ge (show k < Q.length by omega) (by omega)), fun _ => ?_⟩
      conv => whnf
      refine ⟨_, b1, _, rfl, ?_⟩
      conv => whnf
      refine ⟨_, b1, _, rfl, ?_⟩
      conv => whnf
      refine ⟨_, _, q4, vp_in_nI (show k < 20 by omega) (by decide), ?_⟩
      conv => whnf
      rw [nI_clamp (show k < 2 ^ 31 by omega), (q6 k v hv).1]
      refine ⟨_, b1, _, rfl, ?_⟩
      conv => whnf
      refine ⟨_, _, q5, vp_in_nI (show k < 20 by omega) (by decide), ?_⟩
      conv => whnf
      rw [nI_clamp (show k < 2 ^ 31 by omega), (q6 k v hv).2]
      rw [show (74 : Int32) + 3 * nI v.1 + nI v.2 - 1 = nI (74 + (v.1 * 3 + (v.2 - 1))) by
        rw [show (74 : Int32) = nI 74 by decide, show (3 : Int32) = nI 3 by decide, pk_mul, nI_add, nI_add, show 74 + 3 * v.1 + v.2 = 74 + (v.1 * 3 + (v.2 - 1)) + 1 by omega, nI_pred]]
      refine ⟨_, _, b2, vp_in_nI (show 74 + (v.1 * 3 + (v.2 - 1)) < 106 by omega) (by decide), ?_⟩
      conv => whnf
      rw [nI_clamp (show 74 + (v.1 * 3 + (v.2 - 1)) < 2 ^ 31 by omega), p5 _ (by omega)]
      refine ⟨fun q => ?_, fun q => ?_⟩
      · rw [if_neg (fun z => q (zp1.mpr z))] at k9
        conv => whnf
        rw [show nI (zopn σ (Q.take k)) + 0 = nI (zopn σ (Q.take k)) from Int32.add_zero _]
        exact k9
      · rw [if_pos (zp1.mp q)] at k9
        conv => whnf
        rw [show nI (zopn σ (Q.take k)) + 1 = nI (zopn σ (Q.take k) + 1) from nI_1 _]
        exact k9
  refine hgo [4] 40 _ _ _ _ _ _ _ ?_
  conv => whnf
  exact loop Q.length 0 (by omega)

