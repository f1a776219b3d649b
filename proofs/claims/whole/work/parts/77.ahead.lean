/-! The reference: ahead -/
set_option maxRecDepth 100000 in
theorem S_X7_ahead {C : zK} (hC : zCld 215 zTT C) {h : zH} {n : Nat} {K : zQ} {r d x : Nat} {c : Nat → Int32} {σ : zS} (H : zRr h r c σ) (hd : d < 2) (hx : x < 1000) (hin : ∃ y, zco (zdr σ d) x = some y) (H1 : K 0 (some (.int (zah (zdr σ d) x))) h n) : C 159 [.ref r, .int (nI d), .int (nI x)] h n K := by
  have hob := H.ob
  have hl := H.ln d
  refine zd_X7_ahead hC rfl fun P hgo hF => ?_
  refine hgo [] 30 _ _ _ _ _ _ _ ?_
  conv => whnf
  refine ⟨_, hob, ?_⟩
  refine S_X7_placeOf hC H hd hx ?_
  conv => whnf
  rcases zix_cs (zdr σ d) x with ⟨j, v, -, a2, -, a4, a5, a6⟩ | ⟨-, -, a5, a6⟩
  · have hj := (List.getElem?_eq_some_iff.mp a2).1
    unfold zah at H1
    rw [a4] at H1
    rw [a6]
    cases j with
    | zero =>
      refine ⟨fun z => absurd rfl z, fun _ => ?_⟩
      conv => whnf
      exact H1
    | succ j =>
      obtain ⟨u, hu⟩ : ∃ u, (zdr σ d)[j]? = some u := ⟨(zdr σ d)[j], List.getElem?_eq_getElem (by omega)⟩
      have H2 : K 0 (some (.int (nI (znm (zdr σ d) j)))) h n := H1
      rw [znm_at hu] at H2
      refine ⟨fun _ => ?_, fun z => absurd z (nI_ne0 (Nat.succ_pos j) (by omega))⟩
      conv => whnf
      refine ⟨_, hob, ?_⟩
      rw [show nI (j + 1) - 1 = nI j from nI_pred j]
      refine S_X7_numberAt hC H hd hu ?_
      conv => whnf
      exact H2
  · obtain ⟨y, hy⟩ := hin
    rw [a5] at hy
    exact nomatch hy

