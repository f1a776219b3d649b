/-! The reference: isChanged -/
set_option maxRecDepth 100000 in
theorem S_X7_isChanged {C : zK} (hC : zCld 215 zTT C) {h : zH} {n : Nat} {K : zQ} {r d : Nat} {c : Nat → Int32} {σ : zS} (H : zRr h r c σ) (hd : d < 2) (Wb : ∀ (i : Nat) (v : Nat × Nat), (zba σ)[i]? = some v → v.1 = i) (H1 : zba σ ≠ zdr σ d → K 0 (some (.int 1)) h n) (H0 : zba σ = zdr σ d → K 0 (some (.int 0)) h n) : C 135 [.ref r, .int (nI d)] h n K := by
  obtain ⟨h1, f, h2, h3⟩ := id H
  have hnb := H.bs
  have hln := H.ln d
  refine zd_X7_isChanged hC rfl fun P hgo hF => ?_
  have fin1 : ∀ k, zba σ ≠ zdr σ d → P 22 [some (.ref r), some (.int (nI d)), some (.int 1), some (.int (nI k))] [] h n 0 0 := by
    intro k hne
    refine hgo [22] 40 _ _ _ _ _ _ _ ?_
    conv => whnf
    refine ⟨_, h1, _, rfl, ?_⟩
    conv => whnf
    refine ⟨_, _, h2, vp_in_nI (n := 0) (by omega) (by decide), ?_⟩
    conv => whnf
    refine ⟨fun _ => ?_, fun _ => ?_⟩
    · conv => whnf
      exact ⟨Or.inr rfl, H1 hne⟩
    · conv => whnf
      refine ⟨fun _ => ?_, fun z => absurd z (by decide)⟩
      conv => whnf
      exact ⟨Or.inr rfl, H1 hne⟩
  have loop : ∀ e k, k + e = (zba σ).length → (zdr σ d).length = (zba σ).length → (∀ i, i < k → (zba σ)[i]? = (zdr σ d)[i]?) → P 22 [some (.ref r), some (.int (nI d)), some (.int 0), some (.int (nI k))] [] h n 0 0 := by
    intro e
    induction e with
    | zero =>
      intro k hk hl hs
      have heq : zba σ = zdr σ d := List.ext_getElem? fun i => by
        by_cases c1 : i < k
        · exact hs i c1
        · rw [List.getElem?_eq_none (by omega), List.getElem?_eq_none (by omega)]
      refine hgo [22] 40 _ _ _ _ _ _ _ ?_
      conv => whnf
      refine ⟨_, h1, _, rfl, ?_⟩
      conv => whnf
      refine ⟨_, _, h2, vp_in_nI (n := 0) (by omega) (by decide), ?_⟩
      conv => whnf
      rw [show (0 : Int32).toNatClampNeg = 0 by decide, h3.1]
      refine ⟨fun _ => ?_, fun q => absurd (nI_le (show (zba σ).length ≤ k by omega) (show k < 2 ^ 31 by omega)) q⟩
      conv => whnf
      exact ⟨Or.inl rfl, H0 heq⟩
    | succ e ih =>
      intro k hk hl hs
      obtain ⟨v, hv⟩ : ∃ v, (zdr σ d)[k]? = some v := ⟨(zdr σ d)[k], List.getElem?_eq_getElem (by omega)⟩
      obtain ⟨u, hu⟩ : ∃ u, (zba σ)[k]? = some u := ⟨(zba σ)[k], List.getElem?_eq_getElem (by omega)⟩
      have hvb := H.lt d v (List.mem_of_getElem? hv)
      have hub := h3.2.2.2.2.2.2.2.2.2.1 u (List.mem_of_getElem? hu)
      have hu1 := Wb k u hu
      have hfu := h3.2.2.1 k u hu
      have ne : v ≠ u → zba σ ≠ zdr σ d := fun y z => y (Option.some.inj (hv.symm.trans (by rw [← z]; exact hu)))
      have bad : v ≠ u → P 22 [some (.ref r), some (.int (nI d)), some (.int 1), some (.int (nI (k + 1)))] [] h n 0 0 := fun y => fin1 (k + 1) (ne y)
      rw [← zinc (j := k)] at bad
      refine hgo [22] 60 _ _ _ _ _ _ _ ?_
      conv => whnf
      refine ⟨_, h1, _, rfl, ?_⟩
      conv => whnf
      refine ⟨_, _, h2, vp_in_nI (n := 0) (by omega) (by decide), ?_⟩
      conv => whnf
      rw [show (0 : Int32).toNatClampNeg = 0 by decide, h3.1]
      refine ⟨fun q => absurd q (nI_ge (show k < (zba σ).length by omega) (by omega)), fun _ => ?_⟩
      conv => whnf
      refine ⟨fun z => absurd rfl z, fun _ => ?_⟩
      conv => whnf
      refine ⟨_, h1, ?_⟩
      refine S_X7_numberAt hC H hd hv ?_
      conv => whnf
      refine ⟨fun q => ?_, fun q => ?_⟩
      · conv => whnf
        exact bad (fun z => q (by rw [z, hu1]))
      · have hv1 : v.1 = k := nI_inj (by omega) (by omega) q
        conv => whnf
        refine ⟨_, h1, ?_⟩
        refine S_X7_insideAt hC H hd hv ?_
        conv => whnf
        refine ⟨_, h1, _, rfl, ?_⟩
        conv => whnf
        rw [show (2 : Int32) + nI k = nI (2 + k) from nI_add 2 k]
        refine ⟨_, _, h2, vp_in_nI (by omega) (by decide), ?_⟩
        conv => whnf
        rw [nI_clamp (by omega), hfu]
        refine ⟨fun q2 => ?_, fun q2 => ?_⟩
        · have hv2 : v.2 = u.2 := nI_inj (by omega) (by omega) q2
          have k9 := ih (k + 1) (by omega) hl (fun i hi => by
            by_cases c1 : i = k
            · rw [c1, hu, hv]
              exact congrArg some (Prod.ext (by rw [hu1, hv1]) hv2.symm)
            · exact hs i (by omega))
          rw [← zinc (j := k)] at k9
          conv => whnf
          exact k9
        · conv => whnf
          exact bad (fun z => q2 (by rw [z]))
  refine hgo [22] 40 _ _ _ _ _ _ _ ?_
  conv => whnf
  refine ⟨_, h1, ?_⟩
  refine S_X7_sizeOf hC H hd ?_
  conv => whnf
  refine ⟨_, h1, _, rfl, ?_⟩
  conv => whnf
  refine ⟨_, _, h2, vp_in_nI (n := 0) (by omega) (by decide), ?_⟩
  conv => whnf
  rw [show (0 : Int32).toNatClampNeg = 0 by decide, h3.1]
  refine ⟨fun q => ?_, fun q => ?_⟩
  · have hl : (zdr σ d).length = (zba σ).length := nI_inj (by omega) (by omega) q
    conv => whnf
    exact loop (zba σ).length 0 (by omega) hl (fun i hi => absurd hi (Nat.not_lt_zero _))
  · conv => whnf
    exact fin1 0 (fun z => q (by rw [← z]))

