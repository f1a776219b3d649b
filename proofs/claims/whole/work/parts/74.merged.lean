/-! The reference: its merged text -/
/-- the reference's merged text -/
def zYm (h : zH) (r : Nat) (c : Nat → Int32) (M : zB) : Prop := h r = zRO r c ∧ c 9 = nI M.length ∧ M.length ≤ 30 ∧ (∀ v ∈ M, v.1 < 1000 ∧ v.2 < 1000) ∧ (M.map Prod.fst).Nodup ∧ ∃ mf nf : Nat → Int32, h (r + 5) = .inl (0, 30, .inl mf) ∧ h (r + 6) = .inl (0, 30, .inl nf) ∧ ∀ j v, M[j]? = some v → mf j = nI v.1 ∧ nf j = nI v.2
/-- the place in the merged text, or -1 -/
def zmA (M : zB) (x : Nat) : Int32 := match zix M x with
  | some j => nI j
  | none => -1
set_option maxRecDepth 100000 in
theorem S_X7_mergedAt {C : zK} (hC : zCld 215 zTT C) {h : zH} {n : Nat} {K : zQ} {r x : Nat} {c : Nat → Int32} {M : zB} (H : zYm h r c M) (hx : x < 1000) (H1 : K 0 (some (.int (zmA M x))) h n) : C 161 [.ref r, .int (nI x)] h n K := by
  obtain ⟨h1, h2, h3, h4, h5, mf, nf, h6, h7, h8⟩ := H
  refine zd_X7_mergedAt hC rfl fun P hgo hF => ?_
  have loop : ∀ e k (fo : Int32), k + e = M.length → ((fo = -1 ∧ ∀ i v, i < k → M[i]? = some v → v.1 ≠ x) ∨ ∃ j v, j < k ∧ M[j]? = some v ∧ v.1 = x ∧ zix M x = some j ∧ fo = nI j) → P 4 [some (.ref r), some (.int (nI x)), some (.int fo), some (.int (nI k))] [] h n 0 0 := by
    intro e
    induction e with
    | zero =>
      intro k fo hk hv
      refine hgo [4] 40 _ _ _ _ _ _ _ ?_
      conv => whnf
      refine ⟨_, h1, _, rfl, ?_⟩
      conv => whnf
      rw [h2]
      refine ⟨fun _ => ?_, fun q => absurd (nI_le (show M.length ≤ k by omega) (show k < 2 ^ 31 by omega)) q⟩
      conv => whnf
      unfold zmA at H1
      rcases hv with ⟨a1, a2⟩ | ⟨j, v, a1, a2, a3, a4, a5⟩
      · rw [zix_no (fun v hv => by
          obtain ⟨i, hi⟩ := List.mem_iff_getElem?.mp hv
          exact a2 i v (by have := (List.getElem?_eq_some_iff.mp hi).1; omega) hi)] at H1
        rw [a1]
        exact H1
      · rw [a4] at H1
        rw [a5]
        exact H1
    | succ e ih =>
      intro k fo hk hv
      obtain ⟨u, hu⟩ : ∃ u, M[k]? = some u := ⟨M[k], List.getElem?_eq_getElem (by omega)⟩
      have hub := h4 u (List.mem_of_getElem? hu)
      refine hgo [4] 40 _ _ _ _ _ _ _ ?_
      conv => whnf
      refine ⟨_, h1, _, rfl, ?_⟩
      conv => whnf
      rw [h2]
      refine ⟨fun q => absurd q (nI_ge (show k < M.length by omega) (by omega)), fun _ => ?_⟩
      conv => whnf
      refine ⟨_, h1, _, rfl, ?_⟩
      conv => whnf
      refine ⟨_, _, h6, vp_in_nI (show k < 30 by omega) (by decide), ?_⟩
      conv => whnf
      rw [nI_clamp (by omega), (h8 k u hu).1]
      refine ⟨fun q => ?_, fun q => ?_⟩
      · have hne : u.1 ≠ x := fun z => q (by rw [z])
        have k9 := ih (k + 1) fo (by omega) (by
          rcases hv with ⟨a1, a2⟩ | ⟨j, v, a1, a2⟩
          · refine Or.inl ⟨a1, fun i v hi hv => ?_⟩
            by_cases c1 : i = k
            · rw [c1, hu] at hv
              have e7 : u = v := Option.some.inj hv
              rw [← e7]; exact hne
            · exact a2 i v (by omega) hv
          · exact Or.inr ⟨j, v, by omega, a2⟩)
        rw [← zinc (j := k)] at k9
        conv => whnf
        exact k9
      · have he : u.1 = x := nI_inj (by omega) (by omega) q
        have k9 := ih (k + 1) (nI k) (by omega) (by
          rcases hv with ⟨a1, a2⟩ | ⟨j, v, a1, a2, a3, -⟩
          · exact Or.inr ⟨k, u, by omega, hu, he, zix_fd ⟨⟨u, hu, he⟩, fun i w hi hw => a2 i w hi hw⟩, rfl⟩
          · have := znod_at h5 a2 hu (a3.trans he.symm)
            omega)
        rw [← zinc (j := k)] at k9
        conv => whnf
        exact k9
  refine hgo [4] 40 _ _ _ _ _ _ _ ?_
  conv => whnf
  exact loop M.length 0 (-1) (by omega) (Or.inl ⟨rfl, fun i v hi => absurd hi (Nat.not_lt_zero _)⟩)

