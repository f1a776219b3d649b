/-! The reference: what bars a call -/
theorem zfd_ex {x : Nat} : ∀ {L : zB}, (∃ v ∈ L, v.1 = x) → ∃ j, zfd L x j := by
  intro L
  induction L with
  | nil =>
    intro h
    obtain ⟨v, h1, -⟩ := h
    exact nomatch h1
  | cons u L ih =>
    intro h
    by_cases c : u.1 = x
    · exact ⟨0, ⟨u, rfl, c⟩, fun i v hi => absurd hi (Nat.not_lt_zero _)⟩
    · obtain ⟨v, h1, h2⟩ := h
      rcases List.mem_cons.mp h1 with e | e
      · exact absurd (e ▸ h2) c
      · obtain ⟨j, ⟨w, a1, a2⟩, a3⟩ := ih ⟨v, e, h2⟩
        refine ⟨j + 1, ⟨w, a1, a2⟩, fun i y hi hy => ?_⟩
        cases i with
        | zero =>
          have e5 : u = y := Option.some.inj hy
          rw [← e5]; exact c
        | succ i => exact a3 i y (Nat.lt_of_succ_lt_succ hi) hy
theorem zix_cs (L : zB) (x : Nat) : (∃ j v, zfd L x j ∧ L[j]? = some v ∧ v.1 = x ∧ zix L x = some j ∧ zco L x = some v.2 ∧ zpo L x = j) ∨ ((∀ v ∈ L, v.1 ≠ x) ∧ zix L x = none ∧ zco L x = none ∧ zpo L x = L.length) := by
  by_cases c : ∃ v ∈ L, v.1 = x
  · obtain ⟨j, hj⟩ := zfd_ex c
    obtain ⟨⟨v, hv, e⟩, -⟩ := id hj
    have h1 := zix_fd hj
    exact Or.inl ⟨j, v, hj, hv, e, h1, zco_some hj hv, by unfold zpo; rw [h1]; rfl⟩
  · have h : ∀ v ∈ L, v.1 ≠ x := fun v hv e => c ⟨v, hv, e⟩
    have h1 := zix_no h
    exact Or.inr ⟨h, h1, zco_none h, by unfold zpo; rw [h1]; rfl⟩
set_option maxRecDepth 100000 in
theorem S_X7_has {C : zK} (hC : zCld 215 zTT C) {h : zH} {n : Nat} {K : zQ} {r d x : Nat} {c : Nat → Int32} {σ : zS} (H : zRr h r c σ) (hd : d < 2) (hx : x < 1000) (H1 : ∀ y, zco (zdr σ d) x = some y → K 0 (some (.int 1)) h n) (H0 : zco (zdr σ d) x = none → K 0 (some (.int 0)) h n) : C 130 [.ref r, .int (nI d), .int (nI x)] h n K := by
  have hob := H.ob
  have hl := H.ln d
  refine zd_X7_has hC rfl fun P hgo hF => ?_
  refine hgo [] 20 _ _ _ _ _ _ _ ?_
  conv => whnf
  refine ⟨_, hob, ?_⟩
  refine S_X7_placeOf hC H hd hx ?_
  conv => whnf
  refine ⟨_, hob, ?_⟩
  refine S_X7_sizeOf hC H hd ?_
  conv => whnf
  rcases zix_cs (zdr σ d) x with ⟨j, v, -, a2, -, -, a5, a6⟩ | ⟨-, -, a5, a6⟩
  · have hj := (List.getElem?_eq_some_iff.mp a2).1
    rw [a6]
    refine ⟨fun q => absurd q (nI_ge hj (by omega)), fun _ => ?_⟩
    conv => whnf
    exact ⟨Or.inr rfl, H1 _ a5⟩
  · rw [a6]
    refine ⟨fun _ => ?_, fun q => absurd (nI_le (Nat.le_refl _) (by omega)) q⟩
    conv => whnf
    exact ⟨Or.inl rfl, H0 a5⟩
set_option maxRecDepth 100000 in
theorem S_X7_contentIn {C : zK} (hC : zCld 215 zTT C) {h : zH} {n : Nat} {K : zQ} {r d x y : Nat} {c : Nat → Int32} {σ : zS} (H : zRr h r c σ) (hd : d < 2) (hx : x < 1000) (hy : zco (zdr σ d) x = some y) (H1 : K 0 (some (.int (nI y))) h n) : C 131 [.ref r, .int (nI d), .int (nI x)] h n K := by
  have hob := H.ob
  refine zd_X7_contentIn hC rfl fun P hgo hF => ?_
  refine hgo [] 20 _ _ _ _ _ _ _ ?_
  conv => whnf
  refine ⟨_, hob, ?_⟩
  refine S_X7_placeOf hC H hd hx ?_
  conv => whnf
  rcases zix_cs (zdr σ d) x with ⟨j, v, -, a2, -, -, a5, a6⟩ | ⟨-, -, a5, a6⟩
  · rw [a6]
    have e : v.2 = y := Option.some.inj (a5.symm.trans hy)
    refine ⟨_, hob, ?_⟩
    refine S_X7_insideAt hC H hd a2 ?_
    rw [e]
    conv => whnf
    exact H1
  · rw [a5] at hy
    exact nomatch hy
theorem zRs.bc {f : Nat → Int32} {σ : zS} (h3 : zRs f σ) {i : Nat} (hi : i < (zba σ).length) : f (2 + i) = nI (zbc (zba σ) i) ∧ zbc (zba σ) i < 1000 := by
  obtain ⟨u, a1, a2, a3, a4⟩ := znm_lt hi
  rw [a4]
  exact ⟨h3.2.2.1 i u a1, (h3.2.2.2.2.2.2.2.2.2.1 u a2).2⟩
theorem zed_cx {σ : zS} {d i : Nat} : zed (zcx σ d i) = true ↔ ∃ y, zco (zdr σ d) i = some y ∧ y ≠ zbc (zba σ) i := by
  unfold zcx zchc
  cases e : zco (zdr σ d) i with
  | none =>
    constructor
    · intro h; exact absurd (show zed 4 = true from h) (by decide)
    · intro h; obtain ⟨y, h1, -⟩ := h; exact nomatch h1
  | some y =>
    show zed ((if y = zbc (zba σ) i then 0 else 1) + (if i ∈ zkept (zba σ).length (zdr σ d) then 0 else 2)) = true ↔ _
    constructor
    · intro h
      refine ⟨y, rfl, fun z => ?_⟩
      rw [if_pos z] at h
      split at h <;> exact absurd h (by decide)
    · intro h
      obtain ⟨y', h1, h2⟩ := h
      have : y = y' := Option.some.inj h1
      rw [if_neg (by rw [this]; exact h2)]
      split <;> rfl
set_option maxRecDepth 100000 in
theorem S_X7_doesEdit {C : zK} (hC : zCld 215 zTT C) {h : zH} {n : Nat} {K : zQ} {r d x : Nat} {c : Nat → Int32} {σ : zS} (H : zRr h r c σ) (hd : d < 2) (hx : x < (zba σ).length) (H1 : zed (zcx σ d x) = true → K 0 (some (.int 1)) h n) (H0 : ¬ zed (zcx σ d x) = true → K 0 (some (.int 0)) h n) : C 132 [.ref r, .int (nI d), .int (nI x)] h n K := by
  have hob := H.ob
  have hnb := H.bs
  obtain ⟨-, f, h2, h3⟩ := id H
  have hb := h3.bc hx
  refine zd_X7_doesEdit hC rfl fun P hgo hF => ?_
  refine hgo [] 30 _ _ _ _ _ _ _ ?_
  conv => whnf
  refine ⟨_, hob, ?_⟩
  refine S_X7_has hC H hd (by omega) (fun y e => ?_) (fun e => ?_)
  · have hyb : y < 1000 := by
      rcases zix_cs (zdr σ d) x with ⟨j, v, -, a2, -, -, a5, a6⟩ | ⟨-, -, a5, a6⟩
      · have e2 : v.2 = y := Option.some.inj (a5.symm.trans e)
        rw [← e2]
        exact (H.lt d v (List.mem_of_getElem? a2)).2
      · rw [a5] at e; exact nomatch e
    conv => whnf
    refine ⟨fun z => absurd z (by decide), fun _ => ?_⟩
    conv => whnf
    refine ⟨_, hob, ?_⟩
    refine S_X7_contentIn hC H hd (by omega) e ?_
    conv => whnf
    refine ⟨_, hob, _, rfl, ?_⟩
    conv => whnf
    rw [show (2 : Int32) + nI x = nI (2 + x) from nI_add 2 x]
    refine ⟨_, _, h2, vp_in_nI (by omega) (by decide), ?_⟩
    conv => whnf
    rw [nI_clamp (by omega), hb.1]
    refine ⟨fun q => ?_, fun q => ?_⟩
    · have e9 : y = zbc (zba σ) x := nI_inj (by omega) (by omega) q
      conv => whnf
      refine ⟨Or.inl rfl, H0 fun z => ?_⟩
      obtain ⟨y', h5, h6⟩ := zed_cx.mp z
      have : y = y' := Option.some.inj (e.symm.trans h5)
      exact h6 (by rw [← this, e9])
    · conv => whnf
      exact ⟨Or.inr rfl, H1 (zed_cx.mpr ⟨y, e, fun z => q (by rw [z])⟩)⟩
  · conv => whnf
    refine ⟨fun _ => ?_, fun z => absurd rfl z⟩
    conv => whnf
    refine ⟨Or.inl rfl, H0 fun z => ?_⟩
    obtain ⟨y', h5, h6⟩ := zed_cx.mp z
    rw [e] at h5
    exact nomatch h5
set_option maxRecDepth 100000 in
theorem S_in99 {C : zK} (hC : zCld 215 zTT C) {h : zH} {n : Nat} {K : zQ} {v : Int32} (H1 : ∀ j, zps v 100 = some j → K 0 (some (.int 1)) h n) (H0 : zps v 100 = none → K 0 (some (.int 0)) h n) : C 121 [.int v, .int 0, .int 99] h n K := by
  refine S_inN hC (N := 100) (by decide) (fun y => ?_) H1 H0
  have := zlt_pred (N := 100) (by decide) y
  rw [show nI 100 - 1 = 99 by decide] at this
  exact this
set_option maxRecDepth 100000 in
theorem S_X7_barEdit {C : zK} (hC : zCld 215 zTT C) {h : zH} {n : Nat} {K : zQ} {r : Nat} {c : Nat → Int32} {σ : zS} (H : zRr h r c σ) {d p y : Int32} (H1 : K 0 (some (.int (nI (zcE d p y σ).1))) h n) : C 137 [.ref r, .int d, .int p, .int y] h n K := by
  have hob := H.ob
  refine zd_X7_barEdit hC rfl fun P hgo hF => ?_
  refine hgo [] 20 _ _ _ _ _ _ _ ?_
  conv => whnf
  refine ⟨_, hob, ?_⟩
  refine S_X7_isThere hC H (fun d' p' e1 e2 => ?_) (fun e => ?_)
  · conv => whnf
    refine ⟨fun _ => ?_, fun z => absurd z (by decide)⟩
    conv => whnf
    refine S_in99 hC (fun c' e3 => ?_) (fun e3 => ?_)
    · conv => whnf
      refine ⟨fun z => absurd z (by decide), fun _ => ?_⟩
      conv => whnf
      unfold zcE at H1
      simp only [e1, e2, e3] at H1
      exact H1
    · conv => whnf
      refine ⟨fun _ => ?_, fun z => absurd rfl z⟩
      conv => whnf
      unfold zcE at H1
      simp only [e1, e2, e3] at H1
      exact H1
  · conv => whnf
    refine ⟨fun z => absurd rfl z, fun _ => ?_⟩
    conv => whnf
    rw [zcE_no e] at H1
    exact H1
set_option maxRecDepth 100000 in
theorem S_X7_barMove {C : zK} (hC : zCld 215 zTT C) {h : zH} {n : Nat} {K : zQ} {r : Nat} {c : Nat → Int32} {σ : zS} (H : zRr h r c σ) {d f t : Int32} (H1 : K 0 (some (.int (nI (zcM d f t σ).1))) h n) : C 138 [.ref r, .int d, .int f, .int t] h n K := by
  have hob := H.ob
  refine zd_X7_barMove hC rfl fun P hgo hF => ?_
  refine hgo [] 20 _ _ _ _ _ _ _ ?_
  conv => whnf
  refine ⟨_, hob, ?_⟩
  refine S_X7_isThere hC H (fun d' p' e1 e2 => ?_) (fun e => ?_)
  · conv => whnf
    refine ⟨fun z => absurd z (by decide), fun _ => ?_⟩
    conv => whnf
    refine ⟨_, hob, ?_⟩
    refine S_X7_isThere hC H (fun d2 p2 e3 e4 => ?_) (fun e3 => ?_)
    · have ed : d' = d2 := Option.some.inj (e1.symm.trans e3)
      rw [← ed] at e4
      conv => whnf
      refine ⟨fun z => absurd z (by decide), fun _ => ?_⟩
      conv => whnf
      unfold zcM at H1
      simp only [e1, e2, e4] at H1
      exact H1
    · conv => whnf
      refine ⟨fun _ => ?_, fun z => absurd rfl z⟩
      conv => whnf
      rw [zcM_no (Or.inr e3)] at H1
      exact H1
  · conv => whnf
    refine ⟨fun _ => ?_, fun z => absurd rfl z⟩
    conv => whnf
    rw [zcM_no (Or.inl e)] at H1
    exact H1
set_option maxRecDepth 100000 in
theorem S_X7_barRemove {C : zK} (hC : zCld 215 zTT C) {h : zH} {n : Nat} {K : zQ} {r : Nat} {c : Nat → Int32} {σ : zS} (H : zRr h r c σ) {d p : Int32} (H1 : K 0 (some (.int (nI (zcR d p σ).1))) h n) : C 140 [.ref r, .int d, .int p] h n K := by
  have hob := H.ob
  refine zd_X7_barRemove hC rfl fun P hgo hF => ?_
  refine hgo [] 20 _ _ _ _ _ _ _ ?_
  conv => whnf
  refine ⟨_, hob, ?_⟩
  refine S_X7_isThere hC H (fun d' p' e1 e2 => ?_) (fun e => ?_)
  · conv => whnf
    refine ⟨fun z => absurd z (by decide), fun _ => ?_⟩
    conv => whnf
    unfold zcR at H1
    simp only [e1, e2] at H1
    exact H1
  · conv => whnf
    refine ⟨fun _ => ?_, fun z => absurd rfl z⟩
    conv => whnf
    rw [zcR_no e] at H1
    exact H1
set_option maxRecDepth 100000 in
theorem S_X7_barInsert {C : zK} (hC : zCld 215 zTT C) {h : zH} {n : Nat} {K : zQ} {r : Nat} {c : Nat → Int32} {σ : zS} (H : zRr h r c σ) {d p y : Int32} (H1 : K 0 (some (.int (nI (zcI d p y σ).1))) h n) : C 139 [.ref r, .int d, .int p, .int y] h n K := by
  have hob := H.ob
  obtain ⟨-, f, h2, h3⟩ := id H
  have hu : zus σ ≤ 1000 := h3.2.2.2.2.2.2.2.2.2.2.2
  refine zd_X7_barInsert hC rfl fun P hgo hF => ?_
  refine hgo [] 30 _ _ _ _ _ _ _ ?_
  conv => whnf
  refine S_X7_isDraft hC (fun d' e => ?_) (fun e => ?_)
  · obtain ⟨a1, a2⟩ := zps_some e
    have hl := H.ln d'
    conv => whnf
    refine ⟨fun z => absurd z (by decide), fun _ => ?_⟩
    conv => whnf
    refine ⟨_, hob, ?_⟩
    rw [a1]
    refine S_X7_sizeOf hC H a2 ?_
    conv => whnf
    refine S_inN hC (N := (zdr σ d').length + 1) (by omega) (fun x => ?_) (fun p' e2 => ?_) (fun e2 => ?_)
    · have := zlt_pred (N := (zdr σ d').length + 1) (by omega) x
      rw [nI_pred] at this
      exact this
    · conv => whnf
      refine ⟨fun _ => ?_, fun z => absurd z (by decide)⟩
      conv => whnf
      refine S_in99 hC (fun c' e3 => ?_) (fun e3 => ?_)
      · unfold zcI at H1
        simp only [e, e2, e3] at H1
        conv => whnf
        refine ⟨fun _ => ?_, fun z => absurd z (by decide)⟩
        conv => whnf
        refine ⟨_, hob, ?_⟩
        refine S_X7_sizeOf hC H a2 ?_
        conv => whnf
        refine ⟨fun q => ?_, fun q => ?_⟩
        · rw [if_pos (Or.inl (nI_inj (b := 15) (by omega) (by decide) q))] at H1
          conv => whnf
          exact H1
        · conv => whnf
          refine ⟨_, hob, _, rfl, ?_⟩
          conv => whnf
          refine ⟨_, _, h2, vp_in_nI (n := 1) (by omega) (by decide), ?_⟩
          conv => whnf
          rw [show (1 : Int32).toNatClampNeg = 1 by decide, h3.2.1]
          refine ⟨fun q2 => ?_, fun q2 => ?_⟩
          · rw [if_neg (fun z => z.elim (fun z1 => q (by rw [z1]; rfl)) (fun z2 => q2 (by rw [z2]; rfl)))] at H1
            conv => whnf
            exact H1
          · rw [if_pos (Or.inr (nI_inj (b := 30) (by omega) (by decide) q2))] at H1
            conv => whnf
            exact H1
      · unfold zcI at H1
        simp only [e, e2, e3] at H1
        conv => whnf
        refine ⟨fun z => absurd rfl z, fun _ => ?_⟩
        conv => whnf
        exact H1
    · unfold zcI at H1
      simp only [e, e2] at H1
      conv => whnf
      refine ⟨fun z => absurd rfl z, fun _ => ?_⟩
      conv => whnf
      exact H1
  · unfold zcI at H1
    simp only [e] at H1
    conv => whnf
    refine ⟨fun _ => ?_, fun z => absurd rfl z⟩
    conv => whnf
    exact H1

