/-! The reference: its row of numbers -/
/-- the reference's own object; c: its plain fields by their number -/
def zRO (r : Nat) (c : Nat → Int32) : zC := .inr (7, [.ref (r + 1), .ref (r + 2), .int (c 2), .ref (r + 3), .int (c 4), .int (c 5), .ref (r + 4), .ref (r + 5), .ref (r + 6), .int (c 9), .ref (r + 7), .ref (r + 8), .int (c 12), .ref (r + 9), .ref (r + 10), .ref (r + 11), .int (c 16), .int (c 17), .int (c 18), .int (c 19), .int (c 20), .int (c 21)])
/-- a row of numbers holds a state -/
def zRs (f : Nat → Int32) (σ : zS) : Prop := f 0 = nI (zba σ).length ∧ f 1 = nI (zus σ) ∧ (∀ i v, (zba σ)[i]? = some v → f (2 + i) = nI v.2) ∧ (∀ d, d < 2 → f (12 + 31 * d) = nI (zdr σ d).length ∧ ∀ j v, (zdr σ d)[j]? = some v → f (12 + 31 * d + (1 + j)) = nI v.1 ∧ f (12 + 31 * d + (16 + j)) = nI v.2) ∧ (∀ k, k < 30 → f (74 + k) = zch σ k + 1) ∧ f 104 = nI (zpf σ) ∧ f 105 = nI (zac σ) ∧ (zba σ).length ≤ 10 ∧ (∀ d, (zdr σ d).length ≤ 15) ∧ (∀ v ∈ zba σ, v.1 < 1000 ∧ v.2 < 1000) ∧ (∀ d, ∀ v ∈ zdr σ d, v.1 < 1000 ∧ v.2 < 1000) ∧ zus σ ≤ 1000
/-- the reference's object and its state -/
def zRr (h : zH) (r : Nat) (c : Nat → Int32) (σ : zS) : Prop := h r = zRO r c ∧ ∃ f : Nat → Int32, h (r + 1) = .inl (0, 106, .inl f) ∧ zRs f σ
theorem zRr.off {lo hi r : Nat} {c : Nat → Int32} {σ : zS} {h h' : zH} (H : zRr h r c σ) (ho : zOff lo hi h h') (hd : r + 2 ≤ lo ∨ hi ≤ r) : zRr h' r c σ := by
  obtain ⟨h1, f, h2, h3⟩ := H
  exact ⟨(ho _ (by omega)).trans h1, f, (ho _ (by omega)).trans h2, h3⟩
theorem zatI (d w : Nat) : (12 : Int32) + 31 * nI d + nI w = nI (12 + 31 * d + w) := by
  rw [show (12 : Int32) = nI 12 by decide, show (31 : Int32) = nI 31 by decide, pk_mul, nI_add, nI_add]
set_option maxRecDepth 100000 in
theorem S_X7_thrown {C : zK} (hC : zCld 215 zTT C) {h : zH} {n : Nat} {K : zQ} {r : Nat} {c : Nat → Int32} (H : h r = zRO r c) (H1 : K 0 (some (.int (c 5))) h n) : C 119 [.ref r] h n K := by
  refine zd_X7_thrown hC rfl fun P hgo hF => ?_
  refine hgo [] 20 _ _ _ _ _ _ _ ?_
  conv => whnf
  refine ⟨_, H, _, rfl, ?_⟩
  conv => whnf
  exact H1
set_option maxRecDepth 100000 in
theorem S_X7_refused {C : zK} (hC : zCld 215 zTT C) {h : zH} {n : Nat} {K : zQ} {r : Nat} {c : Nat → Int32} (H : h r = zRO r c) {w : Int32} (H1 : 0 < w → K 0 (some (.int 1)) (zupd h r (zRO r (upd c 5 w))) n) (H0 : ¬ 0 < w → K 0 (some (.int 0)) (zupd h r (zRO r (upd c 5 w))) n) : C 120 [.ref r, .int w] h n K := by
  refine zd_X7_refused hC rfl fun P hgo hF => ?_
  refine hgo [] 20 _ _ _ _ _ _ _ ?_
  conv => whnf
  refine ⟨_, H, Nat.le_of_ble_eq_true rfl, ⟨rfl, rfl⟩, ?_⟩
  conv => whnf
  refine ⟨fun q => ?_, fun q => ?_⟩
  · conv => whnf
    exact ⟨Or.inl rfl, H0 (fun z => absurd q (Int32.not_le.mpr z))⟩
  · conv => whnf
    exact ⟨Or.inr rfl, H1 (Int32.not_le.mp q)⟩
set_option maxRecDepth 100000 in
theorem S_X7_in {C : zK} (hC : zCld 215 zTT C) {h : zH} {n : Nat} {K : zQ} {v lo hi : Int32} (H1 : lo ≤ v → v ≤ hi → K 0 (some (.int 1)) h n) (H0 : v < lo ∨ hi < v → K 0 (some (.int 0)) h n) : C 121 [.int v, .int lo, .int hi] h n K := by
  refine zd_X7_in hC rfl fun P hgo hF => ?_
  refine hgo [] 20 _ _ _ _ _ _ _ ?_
  conv => whnf
  refine ⟨fun q => ?_, fun q => ?_⟩
  · conv => whnf
    exact ⟨Or.inl rfl, H0 (Or.inl q)⟩
  · conv => whnf
    refine ⟨fun q2 => ?_, fun q2 => ?_⟩
    · conv => whnf
      exact ⟨Or.inl rfl, H0 (Or.inr q2)⟩
    · conv => whnf
      exact ⟨Or.inr rfl, H1 (Int32.not_lt.mp q) (Int32.not_lt.mp q2)⟩
set_option maxRecDepth 100000 in
theorem S_inN {C : zK} (hC : zCld 215 zTT C) {h : zH} {n : Nat} {K : zQ} {v hi : Int32} {N : Nat} (hN : N < 2 ^ 31) (hhi : ∀ x : Int32, hi < x ↔ nI N ≤ x) (H1 : ∀ j, zps v N = some j → K 0 (some (.int 1)) h n) (H0 : zps v N = none → K 0 (some (.int 0)) h n) : C 121 [.int v, .int 0, .int hi] h n K := by
  refine S_X7_in hC (fun a b => ?_) (fun a => ?_)
  · cases e : zps v N with
    | some j => exact H1 j e
    | none =>
      rcases (zps_out hN).mp e with z | z
      · exact absurd z (Int32.not_lt.mpr a)
      · exact absurd ((hhi v).mpr z) (Int32.not_lt.mpr b)
  · refine H0 ((zps_out hN).mpr ?_)
    rcases a with z | z
    · exact Or.inl z
    · exact Or.inr ((hhi v).mp z)
theorem zlt_pred {N : Nat} (hN : N < 2 ^ 31) (x : Int32) : nI N - 1 < x ↔ nI N ≤ x := by
  have h1 : (1 : Int32).toInt = 1 := by decide
  have h2 : (nI N - 1).toInt = (N : Int) - 1 := by
    cases N with
    | zero => decide
    | succ m =>
      rw [nI_pred, nI_toInt (by omega)]
      omega
  rw [Int32.lt_iff_toInt_lt, Int32.le_iff_toInt_le, h2, nI_toInt hN]
  omega
set_option maxRecDepth 100000 in
theorem S_X7_isDraft {C : zK} (hC : zCld 215 zTT C) {h : zH} {n : Nat} {K : zQ} {x : Int32} (H1 : ∀ d, zps x 2 = some d → K 0 (some (.int 1)) h n) (H0 : zps x 2 = none → K 0 (some (.int 0)) h n) : C 123 [.int x] h n K := by
  refine zd_X7_isDraft hC rfl fun P hgo hF => ?_
  refine hgo [] 20 _ _ _ _ _ _ _ ?_
  conv => whnf
  refine S_inN hC (N := 2) (by decide) (fun y => ?_) (fun d e => ?_) (fun e => ?_)
  · have := zlt_pred (N := 2) (by decide) y
    rw [show nI 2 - 1 = 1 by decide] at this
    exact this
  · conv => whnf
    exact ⟨Or.inr rfl, H1 d e⟩
  · conv => whnf
    exact ⟨Or.inl rfl, H0 e⟩
set_option maxRecDepth 100000 in
theorem S_X7_at {C : zK} (hC : zCld 215 zTT C) {h : zH} {n : Nat} {K : zQ} {d w : Nat} (H1 : K 0 (some (.int (nI (12 + 31 * d + w)))) h n) : C 124 [.int (nI d), .int (nI w)] h n K := by
  refine zd_X7_at hC rfl fun P hgo hF => ?_
  refine hgo [] 20 _ _ _ _ _ _ _ ?_
  conv => whnf
  rw [zatI]
  exact H1
set_option maxRecDepth 100000 in
theorem S_X7_sizeOf {C : zK} (hC : zCld 215 zTT C) {h : zH} {n : Nat} {K : zQ} {r d : Nat} {c : Nat → Int32} {σ : zS} (H : zRr h r c σ) (hd : d < 2) (H1 : K 0 (some (.int (nI (zdr σ d).length))) h n) : C 125 [.ref r, .int (nI d)] h n K := by
  obtain ⟨h1, f, h2, h3⟩ := H
  have e := (h3.2.2.2.1 d hd).1
  refine zd_X7_sizeOf hC rfl fun P hgo hF => ?_
  refine hgo [] 20 _ _ _ _ _ _ _ ?_
  conv => whnf
  refine ⟨_, h1, _, rfl, ?_⟩
  conv => whnf
  refine S_X7_at hC (w := 0) ?_
  conv => whnf
  refine ⟨_, _, h2, vp_in_nI (by omega) (by decide), ?_⟩
  conv => whnf
  rw [nI_clamp (by omega), Nat.add_zero, e]
  exact H1
set_option maxRecDepth 100000 in
theorem S_X7_numberAt {C : zK} (hC : zCld 215 zTT C) {h : zH} {n : Nat} {K : zQ} {r d j : Nat} {c : Nat → Int32} {σ : zS} {v : Nat × Nat} (H : zRr h r c σ) (hd : d < 2) (hv : (zdr σ d)[j]? = some v) (H1 : K 0 (some (.int (nI v.1))) h n) : C 126 [.ref r, .int (nI d), .int (nI j)] h n K := by
  obtain ⟨h1, f, h2, h3⟩ := H
  have e := ((h3.2.2.2.1 d hd).2 j v hv).1
  have hj := (List.getElem?_eq_some_iff.mp hv).1
  have hl := h3.2.2.2.2.2.2.2.2.1 d
  refine zd_X7_numberAt hC rfl fun P hgo hF => ?_
  refine hgo [] 20 _ _ _ _ _ _ _ ?_
  conv => whnf
  refine ⟨_, h1, _, rfl, ?_⟩
  conv => whnf
  rw [show (1 : Int32) + nI j = nI (1 + j) from nI_add 1 j]
  refine S_X7_at hC ?_
  conv => whnf
  refine ⟨_, _, h2, vp_in_nI (by omega) (by decide), ?_⟩
  conv => whnf
  rw [nI_clamp (by omega), e]
  exact H1
set_option maxRecDepth 100000 in
theorem S_X7_insideAt {C : zK} (hC : zCld 215 zTT C) {h : zH} {n : Nat} {K : zQ} {r d j : Nat} {c : Nat → Int32} {σ : zS} {v : Nat × Nat} (H : zRr h r c σ) (hd : d < 2) (hv : (zdr σ d)[j]? = some v) (H1 : K 0 (some (.int (nI v.2))) h n) : C 127 [.ref r, .int (nI d), .int (nI j)] h n K := by
  obtain ⟨h1, f, h2, h3⟩ := H
  have e := ((h3.2.2.2.1 d hd).2 j v hv).2
  have hj := (List.getElem?_eq_some_iff.mp hv).1
  have hl := h3.2.2.2.2.2.2.2.2.1 d
  refine zd_X7_insideAt hC rfl fun P hgo hF => ?_
  refine hgo [] 20 _ _ _ _ _ _ _ ?_
  conv => whnf
  refine ⟨_, h1, _, rfl, ?_⟩
  conv => whnf
  rw [show (16 : Int32) + nI j = nI (16 + j) from nI_add 16 j]
  refine S_X7_at hC ?_
  conv => whnf
  refine ⟨_, _, h2, vp_in_nI (by omega) (by decide), ?_⟩
  conv => whnf
  rw [nI_clamp (by omega), e]
  exact H1
theorem zRr.ob {h : zH} {r : Nat} {c : Nat → Int32} {σ : zS} (H : zRr h r c σ) : h r = zRO r c := H.1
theorem zRr.ln {h : zH} {r : Nat} {c : Nat → Int32} {σ : zS} (H : zRr h r c σ) (d : Nat) : (zdr σ d).length ≤ 15 := by
  obtain ⟨h1, f, h2, h3⟩ := H
  exact h3.2.2.2.2.2.2.2.2.1 d
theorem zRr.bs {h : zH} {r : Nat} {c : Nat → Int32} {σ : zS} (H : zRr h r c σ) : (zba σ).length ≤ 10 := by
  obtain ⟨h1, f, h2, h3⟩ := H
  exact h3.2.2.2.2.2.2.2.1
theorem zRr.lt {h : zH} {r : Nat} {c : Nat → Int32} {σ : zS} (H : zRr h r c σ) (d : Nat) : ∀ v ∈ zdr σ d, v.1 < 1000 ∧ v.2 < 1000 := by
  obtain ⟨h1, f, h2, h3⟩ := H
  exact h3.2.2.2.2.2.2.2.2.2.2.1 d
set_option maxRecDepth 100000 in
theorem S_X7_isThere {C : zK} (hC : zCld 215 zTT C) {h : zH} {n : Nat} {K : zQ} {r : Nat} {c : Nat → Int32} {σ : zS} (H : zRr h r c σ) {d p : Int32} (H1 : ∀ d' p', zps d 2 = some d' → zps p (zdr σ d').length = some p' → K 0 (some (.int 1)) h n) (H0 : zhp d p σ = none → K 0 (some (.int 0)) h n) : C 128 [.ref r, .int d, .int p] h n K := by
  have hob := H.ob
  refine zd_X7_isThere hC rfl fun P hgo hF => ?_
  refine hgo [] 20 _ _ _ _ _ _ _ ?_
  conv => whnf
  refine S_X7_isDraft hC (fun d' e => ?_) (fun e => ?_)
  · obtain ⟨a1, a2⟩ := zps_some e
    have hl := H.ln d'
    conv => whnf
    refine ⟨fun z => absurd z (by decide), fun _ => ?_⟩
    conv => whnf
    refine ⟨_, hob, ?_⟩
    rw [a1]
    refine S_X7_sizeOf hC H a2 ?_
    conv => whnf
    refine S_inN hC (N := (zdr σ d').length) (by omega) (zlt_pred (by omega)) (fun j e2 => ?_) (fun e2 => ?_)
    · conv => whnf
      refine ⟨fun z => absurd z (by decide), fun _ => ?_⟩
      conv => whnf
      exact ⟨Or.inr rfl, H1 d' j e e2⟩
    · conv => whnf
      refine ⟨fun _ => ?_, fun z => absurd rfl z⟩
      conv => whnf
      refine ⟨Or.inl rfl, H0 ?_⟩
      unfold zhp
      rw [e]
      simp only [e2]
  · conv => whnf
    refine ⟨fun _ => ?_, fun z => absurd rfl z⟩
    conv => whnf
    refine ⟨Or.inl rfl, H0 ?_⟩
    unfold zhp
    rw [e]
/-- the place of a number, or how many there are -/
def zpo (L : zB) (x : Nat) : Nat := (zix L x).getD L.length
set_option maxRecDepth 100000 in
theorem S_X7_placeOf {C : zK} (hC : zCld 215 zTT C) {h : zH} {n : Nat} {K : zQ} {r d x : Nat} {c : Nat → Int32} {σ : zS} (H : zRr h r c σ) (hd : d < 2) (hx : x < 1000) (H1 : K 0 (some (.int (nI (zpo (zdr σ d) x)))) h n) : C 129 [.ref r, .int (nI d), .int (nI x)] h n K := by
  have hob := H.ob
  have hl := H.ln d
  refine zd_X7_placeOf hC rfl fun P hgo hF => ?_
  have loop : ∀ e k, k + e = (zdr σ d).length → (∀ i v, i < k → (zdr σ d)[i]? = some v → v.1 ≠ x) → P 2 [some (.ref r), some (.int (nI d)), some (.int (nI x)), some (.int (nI k))] [] h n 0 0 := by
    intro e
    induction e with
    | zero =>
      intro k hk hno
      have e9 : zpo (zdr σ d) x = k := by
        unfold zpo
        rw [zix_no (fun v hv => by
          obtain ⟨i, hi⟩ := List.mem_iff_getElem?.mp hv
          exact hno i v (by have := (List.getElem?_eq_some_iff.mp hi).1; omega) hi)]
        show (zdr σ d).length = k
        omega
      rw [e9] at H1
      refine hgo [2] 20 _ _ _ _ _ _ _ ?_
      conv => whnf
      refine ⟨_, hob, ?_⟩
      refine S_X7_sizeOf hC H hd ?_
      conv => whnf
      refine ⟨fun _ => ?_, fun q => absurd (nI_le (show (zdr σ d).length ≤ k by omega) (show k < 2 ^ 31 by omega)) q⟩
      conv => whnf
      exact H1
    | succ e ih =>
      intro k hk hno
      obtain ⟨v, hv⟩ : ∃ v, (zdr σ d)[k]? = some v := ⟨(zdr σ d)[k], List.getElem?_eq_getElem (by omega)⟩
      have hvb := H.lt d v (List.mem_of_getElem? hv)
      refine hgo [2] 20 _ _ _ _ _ _ _ ?_
      conv => whnf
      refine ⟨_, hob, ?_⟩
      refine S_X7_sizeOf hC H hd ?_
      conv => whnf
      refine ⟨fun q => absurd q (nI_ge (show k < (zdr σ d).length by omega) (show (zdr σ d).length < 2 ^ 31 by omega)), fun _ => ?_⟩
      conv => whnf
      refine ⟨_, hob, ?_⟩
      refine S_X7_numberAt hC H hd hv ?_
      conv => whnf
      refine ⟨fun q => ?_, fun q => ?_⟩
      · have hq : v.1 = x := nI_inj (by omega) (by omega) q
        have e9 : zpo (zdr σ d) x = k := by
          unfold zpo
          rw [zix_fd ⟨⟨v, hv, hq⟩, fun i w hi hw => hno i w hi hw⟩]
          rfl
        rw [e9] at H1
        conv => whnf
        exact H1
      · have k9 := ih (k + 1) (by omega) (fun i w hi hw => by
          by_cases c1 : i = k
          · rw [c1, hv] at hw
            have e8 : v = w := Option.some.inj hw
            rw [← e8]
            exact fun z => q (by rw [z])
          · exact hno i w (by omega) hw)
        rw [← zinc (j := k)] at k9
        conv => whnf
        exact k9
  refine hgo [2] 20 _ _ _ _ _ _ _ ?_
  conv => whnf
  exact loop (zdr σ d).length 0 (by omega) (fun i v hi => absurd hi (Nat.not_lt_zero _))

