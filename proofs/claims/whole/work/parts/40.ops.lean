/-! The whole program: what a call may do -/
/-- the number that this argument is, below N -/
def zps (x : Int32) (N : Nat) : Option Nat := (List.range N).find? (fun j => decide (x = nI j))
theorem zps_some {x : Int32} {N j : Nat} (h : zps x N = some j) : x = nI j ∧ j < N := ⟨of_decide_eq_true (List.find?_some (p := fun j => decide (x = nI j)) h), List.mem_range.mp (List.mem_of_find?_eq_some h)⟩
theorem zps_none {x : Int32} {N : Nat} (h : zps x N = none) : ∀ j, j < N → x ≠ nI j := fun j hj e => by
  have := List.find?_eq_none.mp h j (List.mem_range.mpr hj)
  exact this (decide_eq_true e)
theorem zps_at {N j : Nat} (hj : j < N) (hN : N < 2 ^ 31) : zps (nI j) N = some j := by
  cases e : zps (nI j) N with
  | none => exact absurd rfl (zps_none e j hj)
  | some k =>
    obtain ⟨h1, h2⟩ := zps_some e
    rw [nI_inj (a := j) (b := k) (by omega) (by omega) h1]
theorem zps_out {x : Int32} {N : Nat} (hN : N < 2 ^ 31) : zps x N = none ↔ (x < 0 ∨ nI N ≤ x) := by
  constructor
  · intro h
    rcases pk_ix x hN with q | q | ⟨j, hj, q⟩
    · exact Or.inl q
    · exact Or.inr q
    · exact absurd q (zps_none h j hj)
  · intro h
    cases e : zps x N with
    | none => rfl
    | some j =>
      obtain ⟨h1, h2⟩ := zps_some e
      rw [h1] at h
      rcases h with q | q
      · exact absurd q (nI_pos (by omega))
      · exact absurd q (nI_ge h2 hN)
def zdc (d p c : Int32) (σ : zS) : Nat := match zps d 2 with
  | none => 1
  | some d' => match zps p (zdr σ d').length with
    | none => 1
    | some _ => match zps c 100 with
      | none => 2
      | some _ => 0
/-- edit: what keeps it from being done, the state after it, its value -/
def zcE (d p c : Int32) (σ : zS) : Nat × zS × Int32 := match zps d 2 with
  | none => (1, σ, 0)
  | some d' => match zps p (zdr σ d').length with
    | none => (1, σ, 0)
    | some p' => match zps c 100 with
      | none => (2, σ, 0)
      | some c' => (0, zsd σ d' ((zdr σ d').set p' (znm (zdr σ d') p', c')), nI (zbc (zdr σ d') p'))
def zcM (d f t : Int32) (σ : zS) : Nat × zS × Int32 := match zps d 2 with
  | none => (1, σ, 0)
  | some d' => match zps f (zdr σ d').length with
    | none => (1, σ, 0)
    | some f' => match zps t (zdr σ d').length with
      | none => (1, σ, 0)
      | some t' => (0, zsd σ d' (((zdr σ d').eraseIdx f').insertIdx t' (znm (zdr σ d') f', zbc (zdr σ d') f')), nI (znm (zdr σ d') f'))
def zcI (d p c : Int32) (σ : zS) : Nat × zS × Int32 := match zps d 2 with
  | none => (1, σ, 0)
  | some d' => match zps p ((zdr σ d').length + 1) with
    | none => (1, σ, 0)
    | some p' => match zps c 100 with
      | none => (2, σ, 0)
      | some c' => if (zdr σ d').length = 15 ∨ zus σ = 30 then (3, σ, 0) else (0, zsd (zba σ, zd0 σ, zd1 σ, zus σ + 1, zpf σ, zac σ, zch σ) d' ((zdr σ d').insertIdx p' (zus σ, c')), nI (zus σ))
def zcR (d p : Int32) (σ : zS) : Nat × zS × Int32 := match zps d 2 with
  | none => (1, σ, 0)
  | some d' => match zps p (zdr σ d').length with
    | none => (1, σ, 0)
    | some p' => (0, zsd σ d' ((zdr σ d').eraseIdx p'), nI (znm (zdr σ d') p'))
/-- the state, the states saved, the text -/
abbrev zA : Type := zS × List zS × List Int32
def zwA (A : zA) : Prop := zwf A.1 ∧ (∀ σ ∈ A.2.1, zwf σ) ∧ A.2.1.length ≤ 6 ∧ A.2.2.length ≤ 60 ∧ ∀ c ∈ A.2.2, (33 : Int32) ≤ c ∧ c ≤ 126
def zX (h : zH) (A : zA) : Prop := h 0 = .inr (6, [.ref 1, .ref 12, .ref 80, .ref 94]) ∧ zSta h 1 A.1 ∧ (∃ nx, zHis h 12 nx A.2.1) ∧ zMsh h 80 ∧ (∃ q, zTx h 94 A.2.2 q) ∧ zwA A
theorem zX.off {lo hi : Nat} {A : zA} {h h' : zH} (H : zX h A) (ho : zOff lo hi h h') (hd : 96 ≤ lo) : zX h' A := by
  obtain ⟨h1, h2, ⟨nx, h3⟩, h4, ⟨q, h5⟩, h6⟩ := H
  exact ⟨(ho _ (by omega)).trans h1, h2.off ho (by omega), ⟨nx, h3.off ho (by omega)⟩, h4.off ho (by omega), ⟨q, h5.off ho (by omega)⟩, h6⟩
set_option maxRecDepth 100000 in
theorem S_X6_isDraft {C : zK} (hC : zCld 215 zTT C) {h : zH} {n : Nat} {K : zQ} {x : Int32} (H1 : ∀ d, zps x 2 = some d → K 0 (some (.int 1)) h n) (H0 : zps x 2 = none → K 0 (some (.int 0)) h n) : C 107 [.int x] h n K := by
  refine zd_X6_isDraft hC rfl fun P hgo hF => ?_
  refine hgo [] 20 _ _ _ _ _ _ _ ?_
  conv => whnf
  have yes : ∀ d, d < 2 → x = nI d → K 0 (some (.int 1)) h n := fun d hd e => H1 d (by rw [e]; exact zps_at hd (by decide))
  refine ⟨fun q => ?_, fun q => ?_⟩
  · conv => whnf
    exact ⟨Or.inr rfl, yes 0 (by decide) q⟩
  · conv => whnf
    refine ⟨fun q2 => ?_, fun q2 => ?_⟩
    · conv => whnf
      refine ⟨Or.inl rfl, H0 ?_⟩
      cases e : zps x 2 with
      | none => rfl
      | some d =>
        obtain ⟨a1, a2⟩ := zps_some e
        rcases (by omega : d = 0 ∨ d = 1) with e2 | e2
        · rw [e2] at a1; exact absurd a1 q
        · rw [e2] at a1; exact absurd a1 q2
    · conv => whnf
      exact ⟨Or.inr rfl, yes 1 (by decide) q2⟩
set_option maxRecDepth 100000 in
theorem S_X6_isContent {C : zK} (hC : zCld 215 zTT C) {h : zH} {n : Nat} {K : zQ} {x : Int32} (H1 : ∀ d, zps x 100 = some d → K 0 (some (.int 1)) h n) (H0 : zps x 100 = none → K 0 (some (.int 0)) h n) : C 108 [.int x] h n K := by
  refine zd_X6_isContent hC rfl fun P hgo hF => ?_
  refine hgo [] 20 _ _ _ _ _ _ _ ?_
  conv => whnf
  refine ⟨fun q => ?_, fun q => ?_⟩
  · conv => whnf
    exact ⟨Or.inl rfl, H0 ((zps_out (by decide)).mpr (Or.inl q))⟩
  · conv => whnf
    refine ⟨fun q2 => ?_, fun q2 => ?_⟩
    · conv => whnf
      refine ⟨Or.inl rfl, H0 ((zps_out (by decide)).mpr (Or.inr ?_))⟩
      rw [Int32.le_iff_toInt_le]
      rw [Int32.lt_iff_toInt_lt] at q2
      have a1 : (nI 100).toInt = 100 := by decide
      have a2 : (99 : Int32).toInt = 99 := by decide
      omega
    · conv => whnf
      cases e : zps x 100 with
      | none =>
        rcases (zps_out (by decide)).mp e with z | z
        · exact absurd z q
        · exact absurd (Int32.lt_of_lt_of_le (by decide : (99 : Int32) < nI 100) z) q2
      | some d => exact ⟨Or.inr rfl, H1 d e⟩
theorem zX.st {h : zH} {A : zA} (H : zX h A) : zSta h 1 A.1 := H.2.1
def zhp (d p : Int32) (σ : zS) : Option (Nat × Nat) := match zps d 2 with
  | none => none
  | some d' => match zps p (zdr σ d').length with
    | none => none
    | some p' => some (d', p')
set_option maxRecDepth 100000 in
theorem S_X6_hasPosition {C : zK} (hC : zCld 215 zTT C) {h : zH} {n : Nat} {K : zQ} {A : zA} (H : zX h A) {d p : Int32} (H1 : ∀ d' p', zps d 2 = some d' → zps p (zdr A.1 d').length = some p' → K 0 (some (.int 1)) h n) (H0 : zhp d p A.1 = none → K 0 (some (.int 0)) h n) : C 109 [.ref 0, .int d, .int p] h n K := by
  have hob := H.1
  have hst := H.st.1
  refine zd_X6_hasPosition hC rfl fun P hgo hF => ?_
  refine hgo [] 20 _ _ _ _ _ _ _ ?_
  conv => whnf
  refine S_X6_isDraft hC (fun d' e => ?_) (fun e => ?_)
  · obtain ⟨a1, a2⟩ := zps_some e
    have hL := H.st.dr (d := d')
    obtain ⟨f, g, ⟨r1, -, -⟩, hlen, hN, -⟩ := hL.raw
    conv => whnf
    refine ⟨fun z => absurd z (by decide), fun _ => ?_⟩
    conv => whnf
    refine ⟨_, hob, _, rfl, ?_⟩
    conv => whnf
    refine ⟨_, hst, ?_⟩
    rw [a1]
    refine S_X5_draft hC H.st a2 ?_
    conv => whnf
    refine ⟨_, r1, ?_⟩
    refine S_X0_holds hC hL (fun j hj e2 => ?_) (fun hno => ?_)
    · conv => whnf
      refine ⟨fun z => absurd z (by decide), fun _ => ?_⟩
      conv => whnf
      exact ⟨Or.inr rfl, H1 d' j e (by rw [e2]; exact zps_at hj (by omega))⟩
    · conv => whnf
      refine ⟨fun _ => ?_, fun z => absurd rfl z⟩
      conv => whnf
      refine ⟨Or.inl rfl, H0 ?_⟩
      unfold zhp
      rw [e]
      cases e2 : zps p (zdr A.1 d').length with
      | none =>
        show (match zps p (zdr A.1 d').length with
          | none => none
          | some p' => some (d', p')) = none
        rw [e2]
      | some j =>
        obtain ⟨b1, b2⟩ := zps_some e2
        exact absurd b1 (hno j b2)
  · conv => whnf
    refine ⟨fun _ => ?_, fun z => absurd rfl z⟩
    conv => whnf
    refine ⟨Or.inl rfl, H0 ?_⟩
    unfold zhp
    rw [e]
theorem zcE_no {d p c : Int32} {σ : zS} (h : zhp d p σ = none) : zcE d p c σ = (1, σ, 0) := by
  unfold zhp at h
  unfold zcE
  cases e : zps d 2 with
  | none => rfl
  | some d' =>
    rw [e] at h
    cases e2 : zps p (zdr σ d').length with
    | none => simp only [e2]
    | some p' =>
      simp only [e2] at h
      exact nomatch h
theorem zcR_no {d p : Int32} {σ : zS} (h : zhp d p σ = none) : zcR d p σ = (1, σ, 0) := by
  unfold zhp at h
  unfold zcR
  cases e : zps d 2 with
  | none => rfl
  | some d' =>
    rw [e] at h
    cases e2 : zps p (zdr σ d').length with
    | none => simp only [e2]
    | some p' =>
      simp only [e2] at h
      exact nomatch h
theorem zcM_no {d f t : Int32} {σ : zS} (h : zhp d f σ = none ∨ zhp d t σ = none) : zcM d f t σ = (1, σ, 0) := by
  unfold zhp at h
  unfold zcM
  cases e : zps d 2 with
  | none => rfl
  | some d' =>
    rw [e] at h
    cases e2 : zps f (zdr σ d').length with
    | none => simp only [e2]
    | some f' =>
      cases e3 : zps t (zdr σ d').length with
      | none => simp only [e2, e3]
      | some t' =>
        simp only [e2, e3] at h
        rcases h with h | h
        · exact nomatch h
        · exact nomatch h
set_option maxRecDepth 100000 in
theorem S_X6_editFault {C : zK} (hC : zCld 215 zTT C) {h : zH} {n : Nat} {K : zQ} {A : zA} (H : zX h A) {d p c : Int32} (H1 : K 0 (some (.int (nI (zcE d p c A.1).1))) h n) : C 110 [.ref 0, .int d, .int p, .int c] h n K := by
  have hob := H.1
  refine zd_X6_editFault hC rfl fun P hgo hF => ?_
  refine hgo [] 20 _ _ _ _ _ _ _ ?_
  conv => whnf
  refine ⟨_, hob, ?_⟩
  refine S_X6_hasPosition hC H (fun d' p' e1 e2 => ?_) (fun e => ?_)
  · conv => whnf
    refine ⟨fun _ => ?_, fun z => absurd z (by decide)⟩
    conv => whnf
    refine S_X6_isContent hC (fun c' e3 => ?_) (fun e3 => ?_)
    · conv => whnf
      refine ⟨fun z => absurd z (by decide), fun _ => ?_⟩
      conv => whnf
      unfold zcE at H1
      simp only [e1, e2, e3] at H1
      exact H1
    · conv => whnf
      refine ⟨fun _ => ?_, fun z => absurd rfl z⟩
      conv => whnf
      unfold zcE at H1
      simp only [e1, e2, e3] at H1
      exact H1
  · conv => whnf
    refine ⟨fun z => absurd rfl z, fun _ => ?_⟩
    conv => whnf
    rw [zcE_no e] at H1
    exact H1
set_option maxRecDepth 100000 in
theorem S_X6_moveFault {C : zK} (hC : zCld 215 zTT C) {h : zH} {n : Nat} {K : zQ} {A : zA} (H : zX h A) {d f t : Int32} (H1 : K 0 (some (.int (nI (zcM d f t A.1).1))) h n) : C 111 [.ref 0, .int d, .int f, .int t] h n K := by
  have hob := H.1
  refine zd_X6_moveFault hC rfl fun P hgo hF => ?_
  refine hgo [] 20 _ _ _ _ _ _ _ ?_
  conv => whnf
  refine ⟨_, hob, ?_⟩
  refine S_X6_hasPosition hC H (fun d' p' e1 e2 => ?_) (fun e => ?_)
  · conv => whnf
    refine ⟨fun z => absurd z (by decide), fun _ => ?_⟩
    conv => whnf
    refine ⟨_, hob, ?_⟩
    refine S_X6_hasPosition hC H (fun d2 p2 e3 e4 => ?_) (fun e3 => ?_)
    · have ed : d' = d2 := Option.some.inj (e1.symm.trans e3)
      rw [← ed] at e4
      conv => whnf
      refine ⟨fun z => absurd z (by decide), fun _ => ?_⟩
      conv => whnf
      unfold zcM at H1
      simp only [e1, e2, e4] at H1
      exact H1
    · conv => whnf
      refine ⟨fun _ => ?_, fun z => absurd rfl z⟩
      conv => whnf
      rw [zcM_no (Or.inr e3)] at H1
      exact H1
  · conv => whnf
    refine ⟨fun _ => ?_, fun z => absurd rfl z⟩
    conv => whnf
    rw [zcM_no (Or.inl e)] at H1
    exact H1
set_option maxRecDepth 100000 in
theorem S_X6_removeFault {C : zK} (hC : zCld 215 zTT C) {h : zH} {n : Nat} {K : zQ} {A : zA} (H : zX h A) {d p : Int32} (H1 : K 0 (some (.int (nI (zcR d p A.1).1))) h n) : C 113 [.ref 0, .int d, .int p] h n K := by
  have hob := H.1
  refine zd_X6_removeFault hC rfl fun P hgo hF => ?_
  refine hgo [] 20 _ _ _ _ _ _ _ ?_
  conv => whnf
  refine ⟨_, hob, ?_⟩
  refine S_X6_hasPosition hC H (fun d' p' e1 e2 => ?_) (fun e => ?_)
  · conv => whnf
    refine ⟨fun z => absurd z (by decide), fun _ => ?_⟩
    conv => whnf
    unfold zcR at H1
    simp only [e1, e2] at H1
    exact H1
  · conv => whnf
    refine ⟨fun _ => ?_, fun z => absurd rfl z⟩
    conv => whnf
    rw [zcR_no e] at H1
    exact H1
set_option maxRecDepth 100000 in
theorem S_X6_insertFault {C : zK} (hC : zCld 215 zTT C) {h : zH} {n : Nat} {K : zQ} {A : zA} (H : zX h A) {d p c : Int32} (H1 : K 0 (some (.int (nI (zcI d p c A.1).1))) h n) : C 112 [.ref 0, .int d, .int p, .int c] h n K := by
  have hob := H.1
  have hst := H.st.1
  obtain ⟨⟨-, w2, w3, -⟩, -⟩ := H.2.2.2.2.2
  refine zd_X6_insertFault hC rfl fun P hgo hF => ?_
  refine hgo [] 30 _ _ _ _ _ _ _ ?_
  conv => whnf
  refine S_X6_isDraft hC (fun d' e => ?_) (fun e => ?_)
  · obtain ⟨a1, a2⟩ := zps_some e
    have hL := H.st.dr (d := d')
    obtain ⟨f, g, ⟨r1, -, -⟩, hlen, hN, -⟩ := hL.raw
    have bad : zps p ((zdr A.1 d').length + 1) = none → K 0 (some (.int 1)) h n := by
      intro e2
      unfold zcI at H1
      simp only [e, e2] at H1
      exact H1
    conv => whnf
    refine ⟨fun z => absurd z (by decide), fun _ => ?_⟩
    conv => whnf
    refine ⟨fun q => ?_, fun q => ?_⟩
    · conv => whnf
      exact bad ((zps_out (by omega)).mpr (Or.inl q))
    · conv => whnf
      refine ⟨_, hob, _, rfl, ?_⟩
      conv => whnf
      refine ⟨_, hst, ?_⟩
      rw [a1]
      refine S_X5_draft hC H.st a2 ?_
      conv => whnf
      refine ⟨_, r1, _, rfl, ?_⟩
      conv => whnf
      refine ⟨fun q2 => ?_, fun q2 => ?_⟩
      · conv => whnf
        cases e2 : zps p ((zdr A.1 d').length + 1) with
        | none =>
          rcases (zps_out (by omega)).mp e2 with z | z
          · exact absurd z q
          · exact absurd (Int32.le_trans z q2) (nI_ge (show (zdr A.1 d').length < (zdr A.1 d').length + 1 by omega) (by omega))
        | some p' =>
          refine S_X6_isContent hC (fun c' e3 => ?_) (fun e3 => ?_)
          · unfold zcI at H1
            simp only [e, e2, e3] at H1
            conv => whnf
            refine ⟨fun _ => ?_, fun z => absurd z (by decide)⟩
            conv => whnf
            refine ⟨_, hob, _, rfl, ?_⟩
            conv => whnf
            refine ⟨_, hst, ?_⟩
            refine S_X5_draft hC H.st a2 ?_
            conv => whnf
            refine ⟨_, r1, ?_⟩
            refine S_X0_isFull hC hL (fun e4 => ?_) (fun e4 => ?_)
            · rw [if_pos (Or.inl e4)] at H1
              conv => whnf
              refine ⟨fun _ => ?_, fun z => absurd z (by decide)⟩
              conv => whnf
              exact H1
            · conv => whnf
              refine ⟨fun z => absurd rfl z, fun _ => ?_⟩
              conv => whnf
              refine ⟨_, hob, _, rfl, ?_⟩
              conv => whnf
              refine ⟨_, hst, _, rfl, ?_⟩
              conv => whnf
              refine ⟨fun q3 => ?_, fun q3 => ?_⟩
              · have hlt := (nI_ltI (a := zus A.1) (b := 30) (by omega) (by decide)).mp q3
                rw [if_neg (fun z => z.elim (fun y => by omega) (fun y => by omega))] at H1
                conv => whnf
                exact H1
              · have hge : zus A.1 = 30 := by
                  have : ¬ zus A.1 < 30 := fun z => q3 ((nI_ltI (a := zus A.1) (b := 30) (by omega) (by decide)).mpr z)
                  omega
                rw [if_pos (Or.inr hge)] at H1
                conv => whnf
                exact H1
          · unfold zcI at H1
            simp only [e, e2, e3] at H1
            conv => whnf
            refine ⟨fun z => absurd rfl z, fun _ => ?_⟩
            conv => whnf
            exact H1
      · conv => whnf
        refine bad ((zps_out (by omega)).mpr (Or.inr ?_))
        have q3 := Int32.not_le.mp q2
        rw [Int32.lt_iff_toInt_lt, nI_toInt (by omega)] at q3
        rw [Int32.le_iff_toInt_le, nI_toInt (by omega)]
        omega
  · unfold zcI at H1
    simp only [e] at H1
    conv => whnf
    refine ⟨fun _ => ?_, fun z => absurd rfl z⟩
    conv => whnf
    exact H1

