/-! DraftChanges: what a draft does with each block of the base -/
/-- the content of the first block with this number -/
def zco (L : zB) (x : Nat) : Option Nat := (L.find? (fun v => v.1 == x)).map (fun v => v.2)
def zbc (B : zB) (i : Nat) : Nat := match B[i]? with
  | some v => v.2
  | none => 0
def zrw (B L : zB) (i : Nat) : Nat := match zco L i with
  | none => 4
  | some y => if y = zbc B i then 2 else 3
/-- what a draft does with a block: edits 1, moves 2, removes 4 -/
def zchc (B L : zB) (i : Nat) : Nat := match zco L i with
  | none => 4
  | some y => (if y = zbc B i then 0 else 1) + (if i ∈ zkept B.length L then 0 else 2)
theorem zco_some {L : zB} {x j : Nat} {w : Nat × Nat} (hf : zfd L x j) (hw : L[j]? = some w) : zco L x = some w.2 := by
  unfold zco
  rw [zfd_find hf hw]
  rfl
theorem zco_none {L : zB} {x : Nat} (h : ∀ v ∈ L, v.1 ≠ x) : zco L x = none := by
  unfold zco
  rw [zfd_none h]
  rfl
theorem zbc_at {B : zB} {i : Nat} {v : Nat × Nat} (h : B[i]? = some v) : zbc B i = v.2 := by
  unfold zbc
  rw [h]
theorem zrw_lt {B L : zB} {i : Nat} : zrw B L i < 5 := by
  unfold zrw
  cases zco L i with
  | none => exact (by decide : 4 < 5)
  | some y =>
    show (if y = zbc B i then 2 else 3) < 5
    split <;> decide
theorem zchc_lt {B L : zB} {i : Nat} : zchc B L i < 5 := by
  unfold zchc
  cases zco L i with
  | none => exact (by decide : 4 < 5)
  | some y =>
    show (if y = zbc B i then 0 else 1) + (if i ∈ zkept B.length L then 0 else 2) < 5
    split <;> split <;> decide
theorem zand5 {c : Nat} (h : c < 5) : nI c &&& Int32.ofInt (-3) = nI (if c = 2 then 0 else if c = 3 then 1 else c) := by
  match c, h with
  | 0, _ => decide
  | 1, _ => decide
  | 2, _ => decide
  | 3, _ => decide
  | 4, _ => decide
  | c + 5, h => omega
theorem zchc_raw {B L : zB} {i : Nat} : nI (zchc B L i) = if i ∈ zkept B.length L then nI (zrw B L i) &&& Int32.ofInt (-3) else nI (zrw B L i) := by
  by_cases c : i ∈ zkept B.length L
  · rw [if_pos c, zand5 zrw_lt]
    unfold zchc zrw
    cases zco L i with
    | none => rfl
    | some y =>
      show nI ((if y = zbc B i then 0 else 1) + (if i ∈ zkept B.length L then 0 else 2)) = nI (if (if y = zbc B i then 2 else 3) = 2 then 0 else if (if y = zbc B i then 2 else 3) = 3 then 1 else (if y = zbc B i then 2 else 3))
      rw [if_pos c]
      by_cases c2 : y = zbc B i
      · simp only [if_pos c2]; rfl
      · simp only [if_neg c2]; rfl
  · rw [if_neg c]
    unfold zchc zrw
    cases zco L i with
    | none => rfl
    | some y =>
      show nI ((if y = zbc B i then 0 else 1) + (if i ∈ zkept B.length L then 0 else 2)) = nI (if y = zbc B i then 2 else 3)
      rw [if_neg c]
      by_cases c2 : y = zbc B i
      · rw [if_pos c2, if_pos c2]
      · rw [if_neg c2, if_neg c2]
/-- the changes of a draft lie at d -/
def zDx (h : zH) (d nb : Nat) (c : Nat → Nat) : Prop := nb ≤ 10 ∧ ∃ cf af : Nat → Int32, zDc h d cf af ∧ ∀ i, i < nb → cf i = nI (c i) ∧ c i < 5
theorem zDx.off {lo hi d nb : Nat} {c : Nat → Nat} {h h' : zH} (H : zDx h d nb c) (ho : zOff lo hi h h') (hd : d + 3 ≤ lo ∨ hi ≤ d) : zDx h' d nb c := by
  obtain ⟨h1, cf, af, h2, h3⟩ := H
  exact ⟨h1, cf, af, h2.off ho hd, h3⟩
theorem zDx.raw {d nb : Nat} {c : Nat → Nat} {h : zH} (H : zDx h d nb c) : ∃ cf af : Nat → Int32, zDc h d cf af := by
  obtain ⟨h1, cf, af, h2, h3⟩ := H
  exact ⟨cf, af, h2⟩
theorem zDx.obj {d nb : Nat} {c : Nat → Nat} {h : zH} (H : zDx h d nb c) : h d = .inr (2, [.ref (d + 1), .ref (d + 2)]) := by
  obtain ⟨h1, cf, af, h2, h3⟩ := H
  exact h2.1
def zmv (c : Nat) : Bool := c == 2 || c == 3
def zed (c : Nat) : Bool := c == 1 || c == 3
set_option maxRecDepth 100000 in
theorem S_X2_of0 {C : zK} (hC : zCld 215 zTT C) {h : zH} {n : Nat} {K : zQ} {d x : Nat} {cf af : Nat → Int32} (H : zDc h d cf af) (hx : x < 10) (H1 : K 0 (some (.int (cf x))) h n) : C 31 [.ref d, .int (nI x)] h n K := by
  obtain ⟨h1, h2, h3⟩ := id H
  refine zd_X2_of hC rfl fun P hgo hF => ?_
  refine hgo [] 20 _ _ _ _ _ _ _ ?_
  conv => whnf
  repeat (first
    | (refine ⟨_, by assumption, _, rfl, ?_⟩; conv => whnf)
    | (refine ⟨_, _, by assumption, Nat.le_of_ble_eq_true rfl, ?_⟩; conv => whnf)
    | (refine ⟨_, by assumption, Nat.le_of_ble_eq_true rfl, ⟨rfl, rfl⟩, ?_⟩; conv => whnf)
    | (refine ⟨_, by assumption, ?_⟩; conv => whnf))
  refine S_getC hC h2 (by decide) hx ?_
  conv => whnf
  exact H1
set_option maxRecDepth 100000 in
theorem S_X2_of {C : zK} (hC : zCld 215 zTT C) {h : zH} {n : Nat} {K : zQ} {d nb x : Nat} {c : Nat → Nat} (H : zDx h d nb c) (hx : x < nb) (H1 : K 0 (some (.int (nI (c x)))) h n) : C 31 [.ref d, .int (nI x)] h n K := by
  obtain ⟨h1, cf, af, h2, h3⟩ := H
  refine S_X2_of0 hC h2 (by omega) ?_
  rw [(h3 x hx).1]
  exact H1
set_option maxRecDepth 100000 in
theorem S_X2_edits {C : zK} (hC : zCld 215 zTT C) {h : zH} {n : Nat} {K : zQ} {d nb x : Nat} {c : Nat → Nat} (H : zDx h d nb c) (hx : x < nb) (H1 : zed (c x) = true → K 0 (some (.int 1)) h n) (H0 : zed (c x) = false → K 0 (some (.int 0)) h n) : C 32 [.ref d, .int (nI x)] h n K := by
  have hc : c x < 5 := by
    obtain ⟨h1, cf, af, h2, h3⟩ := H
    exact (h3 x hx).2
  refine zd_X2_edits hC rfl fun P hgo hF => ?_
  refine hgo [] 20 _ _ _ _ _ _ _ ?_
  conv => whnf
  refine ⟨_, H.obj, ?_⟩
  refine S_X2_of hC H hx ?_
  conv => whnf
  generalize c x = k at hc H1 H0 ⊢
  match k, hc with
  | 0, _ =>
    refine ⟨fun q => ?_, fun q => absurd (by decide) q⟩
    conv => whnf
    exact ⟨Or.inl rfl, H0 rfl⟩
  | 1, _ =>
    refine ⟨fun q => absurd q (by decide), fun q => ?_⟩
    conv => whnf
    exact ⟨Or.inr rfl, H1 rfl⟩
  | 2, _ =>
    refine ⟨fun q => ?_, fun q => absurd (by decide) q⟩
    conv => whnf
    exact ⟨Or.inl rfl, H0 rfl⟩
  | 3, _ =>
    refine ⟨fun q => absurd q (by decide), fun q => ?_⟩
    conv => whnf
    exact ⟨Or.inr rfl, H1 rfl⟩
  | 4, _ =>
    refine ⟨fun q => ?_, fun q => absurd (by decide) q⟩
    conv => whnf
    exact ⟨Or.inl rfl, H0 rfl⟩
  | k + 5, hc => omega
set_option maxRecDepth 100000 in
theorem S_X2_moved {C : zK} (hC : zCld 215 zTT C) {h : zH} {n : Nat} {K : zQ} {d nb x : Nat} {c : Nat → Nat} (H : zDx h d nb c) (hx : x < nb) (H1 : zmv (c x) = true → K 0 (some (.int 1)) h n) (H0 : zmv (c x) = false → K 0 (some (.int 0)) h n) : C 33 [.ref d, .int (nI x)] h n K := by
  have hc : c x < 5 := by
    obtain ⟨h1, cf, af, h2, h3⟩ := H
    exact (h3 x hx).2
  refine zd_X2_moved hC rfl fun P hgo hF => ?_
  refine hgo [] 20 _ _ _ _ _ _ _ ?_
  conv => whnf
  refine ⟨_, H.obj, ?_⟩
  refine S_X2_of hC H hx ?_
  conv => whnf
  generalize c x = k at hc H1 H0 ⊢
  match k, hc with
  | 0, _ =>
    refine ⟨fun q => ?_, fun q => absurd (by decide) q⟩
    conv => whnf
    exact ⟨Or.inl rfl, H0 rfl⟩
  | 1, _ =>
    refine ⟨fun q => ?_, fun q => absurd (by decide) q⟩
    conv => whnf
    exact ⟨Or.inl rfl, H0 rfl⟩
  | 2, _ =>
    refine ⟨fun q => absurd q (by decide), fun q => ?_⟩
    conv => whnf
    exact ⟨Or.inr rfl, H1 rfl⟩
  | 3, _ =>
    refine ⟨fun q => absurd q (by decide), fun q => ?_⟩
    conv => whnf
    exact ⟨Or.inr rfl, H1 rfl⟩
  | 4, _ =>
    refine ⟨fun q => ?_, fun q => absurd (by decide) q⟩
    conv => whnf
    exact ⟨Or.inl rfl, H0 rfl⟩
  | k + 5, hc => omega
set_option maxRecDepth 100000 in
theorem S_X2_removes {C : zK} (hC : zCld 215 zTT C) {h : zH} {n : Nat} {K : zQ} {d nb x : Nat} {c : Nat → Nat} (H : zDx h d nb c) (hx : x < nb) (H1 : c x = 4 → K 0 (some (.int 1)) h n) (H0 : c x ≠ 4 → K 0 (some (.int 0)) h n) : C 34 [.ref d, .int (nI x)] h n K := by
  have hc : c x < 5 := by
    obtain ⟨h1, cf, af, h2, h3⟩ := H
    exact (h3 x hx).2
  refine zd_X2_removes hC rfl fun P hgo hF => ?_
  refine hgo [] 20 _ _ _ _ _ _ _ ?_
  conv => whnf
  refine ⟨_, H.obj, ?_⟩
  refine S_X2_of hC H hx ?_
  conv => whnf
  refine ⟨fun q => ?_, fun q => ?_⟩
  · conv => whnf
    exact ⟨Or.inl rfl, H0 (fun e => q (by rw [e]; decide))⟩
  · conv => whnf
    exact ⟨Or.inr rfl, H1 (nI_inj (a := c x) (b := 4) (by omega) (by decide) q)⟩
def zcm (nb : Nat) (c : Nat → Nat) : Nat := ((List.range nb).filter (fun i => zmv (c i))).length
theorem zcm_s {j : Nat} {c : Nat → Nat} : zcm (j + 1) c = zcm j c + (if zmv (c j) = true then 1 else 0) := by
  unfold zcm
  rw [List.range_succ, List.filter_append, List.length_append]
  cases h : zmv (c j) <;> simp [h]
set_option maxRecDepth 100000 in
theorem S_X2_countMoved {C : zK} (hC : zCld 215 zTT C) {h : zH} {n : Nat} {K : zQ} {d nb : Nat} {c : Nat → Nat} (H : zDx h d nb c) (H1 : K 0 (some (.int (nI (zcm nb c)))) h n) : C 35 [.ref d, .int (nI nb)] h n K := by
  have hnb : nb ≤ 10 := H.1
  refine zd_X2_countMoved hC rfl fun P hgo hF => ?_
  have loop : ∀ e j, j + e = nb → P 4 [some (.ref d), some (.int (nI nb)), some (.int (nI (zcm j c))), some (.int (nI j))] [] h n 0 0 := by
    intro e
    induction e with
    | zero =>
      intro j hj
      refine hgo [4] 40 _ _ _ _ _ _ _ ?_
      conv => whnf
      refine ⟨fun _ => ?_, fun q => absurd (nI_le (show nb ≤ j by omega) (show j < 2 ^ 31 by omega)) q⟩
      conv => whnf
      rw [show j = nb by omega]
      exact H1
    | succ e ih =>
      intro j hj
      have k9 := ih (j + 1) (by omega)
      rw [← zinc (j := j), zcm_s] at k9
      refine hgo [4] 40 _ _ _ _ _ _ _ ?_
      conv => whnf
      refine ⟨fun q => absurd q (nI_ge (show j < nb by omega) (show nb < 2 ^ 31 by omega)), fun _ => ?_⟩
      conv => whnf
      refine ⟨_, H.obj, ?_⟩
      refine S_X2_moved (x := j) hC H (by omega) (fun c9 => ?_) (fun c9 => ?_)
      · conv => whnf
        refine ⟨fun q => absurd q (by decide), fun _ => ?_⟩
        conv => whnf
        rw [if_pos c9] at k9
        rw [show nI (zcm j c) + 1 = nI (zcm j c + 1) from nI_1 _]
        exact k9
      · conv => whnf
        refine ⟨fun _ => ?_, fun q => absurd rfl q⟩
        conv => whnf
        rw [if_neg (by rw [c9]; decide)] at k9
        rw [show nI (zcm j c) + 0 = nI (zcm j c) from Int32.add_zero _]
        exact k9
  refine hgo [4] 40 _ _ _ _ _ _ _ ?_
  conv => whnf
  exact loop nb 0 (by omega)
set_option maxRecDepth 100000 in
theorem S_X2_changeUnlessKept {C : zK} (hC : zCld 215 zTT C) {h : zH} {n : Nat} {K : zQ} {b b' i : Nat} {B L : zB} (hB : zBl h b 10 B) (hL : zBl h b' 15 L) (hi : i < B.length) (H1 : K 0 (some (.int (nI (zrw B L i)))) h n) : C 37 [.int (nI i), .ref b, .ref b'] h n K := by
  obtain ⟨u, hu⟩ : ∃ u, B[i]? = some u := ⟨B[i], List.getElem?_eq_getElem hi⟩
  obtain ⟨f, g, ⟨r1, -, -⟩, hlen, hN, hval, hw⟩ := hB.raw
  obtain ⟨f2, g2, ⟨r2, -, -⟩, hlen2, hN2, hval2, hw2⟩ := hL.raw
  have hub := hw u (List.mem_of_getElem? hu)
  refine zd_X2_changeUnlessKept hC rfl fun P hgo hF => ?_
  refine hgo [] 30 _ _ _ _ _ _ _ ?_
  conv => whnf
  repeat (first
    | (refine ⟨_, by assumption, _, rfl, ?_⟩; conv => whnf)
    | (refine ⟨_, _, by assumption, Nat.le_of_ble_eq_true rfl, ?_⟩; conv => whnf)
    | (refine ⟨_, by assumption, Nat.le_of_ble_eq_true rfl, ⟨rfl, rfl⟩, ?_⟩; conv => whnf)
    | (refine ⟨_, by assumption, ?_⟩; conv => whnf))
  refine S_X0_find (x := i) hC hL (by omega) (fun j hj => ?_) (fun hno => ?_)
  · obtain ⟨⟨w, hw9, -⟩, -⟩ := id hj
    have hjl := (List.getElem?_eq_some_iff.mp hw9).1
    have hwb := hw2 w (List.mem_of_getElem? hw9)
    have hr : zrw B L i = if w.2 = u.2 then 2 else 3 := by
      unfold zrw
      rw [zco_some hj hw9]
      show (if w.2 = zbc B i then 2 else 3) = _
      rw [zbc_at hu]
    rw [hr] at H1
    conv => whnf
    refine ⟨fun _ => ?_, fun q => absurd q (nI_ne_m1 (j := j) (by omega))⟩
    conv => whnf
    repeat (first
      | (refine ⟨_, by assumption, _, rfl, ?_⟩; conv => whnf)
      | (refine ⟨_, _, by assumption, Nat.le_of_ble_eq_true rfl, ?_⟩; conv => whnf)
      | (refine ⟨_, by assumption, Nat.le_of_ble_eq_true rfl, ⟨rfl, rfl⟩, ?_⟩; conv => whnf)
      | (refine ⟨_, by assumption, ?_⟩; conv => whnf))
    refine S_conAt hC hL hw9 ?_
    conv => whnf
    repeat (first
      | (refine ⟨_, by assumption, _, rfl, ?_⟩; conv => whnf)
      | (refine ⟨_, _, by assumption, Nat.le_of_ble_eq_true rfl, ?_⟩; conv => whnf)
      | (refine ⟨_, by assumption, Nat.le_of_ble_eq_true rfl, ⟨rfl, rfl⟩, ?_⟩; conv => whnf)
      | (refine ⟨_, by assumption, ?_⟩; conv => whnf))
    refine S_conAt hC hB hu ?_
    conv => whnf
    refine ⟨fun q => ?_, fun q => ?_⟩
    · conv => whnf
      rw [if_neg (fun e => q (by rw [e]))] at H1
      exact H1
    · conv => whnf
      rw [if_pos (nI_inj (a := w.2) (b := u.2) (by omega) (by omega) q)] at H1
      exact H1
  · have hr : zrw B L i = 4 := by
      unfold zrw
      rw [zco_none hno]
    rw [hr] at H1
    conv => whnf
    refine ⟨fun q => absurd rfl q, fun _ => ?_⟩
    conv => whnf
    exact H1
theorem zand_idem {x m : Int32} : x &&& m &&& m = x &&& m := by
  rw [Int32.and_assoc, Int32.and_self]
set_option maxRecDepth 100000 in
theorem S_X2_markKept {C : zK} (hC : zCld 215 zTT C) {h : zH} {n : Nat} {K : zQ} {d b nb len0 : Nat} {L : zB} {cf af : Nat → Int32} (H : zDc h d cf af) (hB : zBl h b 15 L) (haf : ∀ j, j < L.length → af j = nI (zal nb L j)) (hlen9 : len0 = zlx (zas nb L)) (hnb : nb ≤ 10) (hd : b + 3 ≤ d ∨ d + 3 ≤ b) (H1 : ∀ h' cf', zDc h' d cf' af → (∀ i, i < 10 → cf' i = if i ∈ zkept nb L then cf i &&& Int32.ofInt (-3) else cf i) → zOff d (d + 3) h h' → K 0 none h' n) : C 40 [.ref d, .int (nI len0), .int (nI nb), .ref b] h n K := by
  obtain ⟨f, g, ⟨r1, -, -⟩, hlen, hN, hval, hw⟩ := hB.raw
  have hw' : ∀ v ∈ L, v.1 < 1000 := fun v hv => (hw v hv).1
  have hlx : len0 ≤ 1000 := by
    rw [hlen9]
    cases e : zlx (zas nb L) with
    | zero => exact Nat.zero_le _
    | succ m =>
      obtain ⟨i, u, a1, a3⟩ := zlx_ex L e
      have := zal_le (nb := nb) (L := L) (p := i)
      omega
  refine zd_X2_markKept hC rfl fun P hgo hF => ?_
  have loop : ∀ (len : Nat) (la : Int32) (fr : Nat) (h2 : zH) (cf2 : Nat → Int32), len ≤ 1000 → fr ≤ L.length → (∀ m, len = m + 1 → zcd nb L len la fr) → zDc h2 d cf2 af → zOff d (d + 3) h h2 → (∀ h' cf', zDc h' d cf' af → (∀ i, i < 10 → cf' i = if i ∈ zkeep nb L len la fr then cf2 i &&& Int32.ofInt (-3) else cf2 i) → zOff d (d + 3) h h' → K 0 none h' n) → P 9 [some (.ref d), some (.int (nI len0)), some (.int (nI nb)), some (.ref b), some (.int la), some (.int (nI fr)), some (.int (nI len)), none] [] h2 n 0 0 := by
    intro len
    induction len with
    | zero =>
      intro la fr h2 cf2 hl9 hfr hcd D2 ho G
      refine hgo [9] 40 _ _ _ _ _ _ _ ?_
      conv => whnf
      refine ⟨fun _ => ?_, fun q => absurd (by decide) q⟩
      conv => whnf
      exact G h2 cf2 D2 (fun i hi => (if_neg (fun z => nomatch z)).symm) ho
    | succ len ih =>
      intro la fr h2 cf2 hl9 hfr hcd D2 ho G
      obtain ⟨a1, a2, a3⟩ := id D2
      have hB2 := hB.off ho hd
      have r2 := (ho _ (by omega)).trans r1
      obtain ⟨q, v, b1, b2, b3, b4, b5⟩ := zls_cd (hcd len rfl)
      have hql := (List.getElem?_eq_some_iff.mp b3).1
      have hvn := zal_pos b3 b4
      have hke : zkeep nb L (len + 1) la fr = v.1 :: zkeep nb L len (nI v.1) (q + 1) := by
        show (match zls nb L (len + 1) la (L.length - fr) fr none with
          | none => []
          | some p => znm L p :: zkeep nb L len (nI (znm L p)) (p + 1)) = _
        rw [b1]
        show znm L q :: zkeep nb L len (nI (znm L q)) (q + 1) = _
        rw [znm_at b3]
      refine hgo [9] 40 _ _ _ _ _ _ _ ?_
      conv => whnf
      refine ⟨fun q9 => absurd q9 (fun z => absurd z (by rw [Int32.le_iff_toInt_le, nI_toInt (by omega)]; show ¬ ((len + 1 : Nat) : Int) ≤ 0; omega)), fun _ => ?_⟩
      conv => whnf
      repeat (first
        | (refine ⟨_, by assumption, _, rfl, ?_⟩; conv => whnf)
        | (refine ⟨_, _, by assumption, Nat.le_of_ble_eq_true rfl, ?_⟩; conv => whnf)
        | (refine ⟨_, by assumption, Nat.le_of_ble_eq_true rfl, ⟨rfl, rfl⟩, ?_⟩; conv => whnf)
        | (refine ⟨_, by assumption, ?_⟩; conv => whnf))
      refine S_X2_leastStart hC D2 hB2 haf hl9 hfr ?_
      rw [b1]
      conv => whnf
      repeat (first
        | (refine ⟨_, by assumption, _, rfl, ?_⟩; conv => whnf)
        | (refine ⟨_, _, by assumption, Nat.le_of_ble_eq_true rfl, ?_⟩; conv => whnf)
        | (refine ⟨_, by assumption, Nat.le_of_ble_eq_true rfl, ⟨rfl, rfl⟩, ?_⟩; conv => whnf)
        | (refine ⟨_, by assumption, ?_⟩; conv => whnf))
      refine S_numAt hC hB2 b3 ?_
      conv => whnf
      repeat (first
        | (refine ⟨_, by assumption, _, rfl, ?_⟩; conv => whnf)
        | (refine ⟨_, _, by assumption, Nat.le_of_ble_eq_true rfl, ?_⟩; conv => whnf)
        | (refine ⟨_, by assumption, Nat.le_of_ble_eq_true rfl, ⟨rfl, rfl⟩, ?_⟩; conv => whnf)
        | (refine ⟨_, by assumption, ?_⟩; conv => whnf))
      refine S_X2_of0 hC D2 (by omega) ?_
      conv => whnf
      refine S_X6_setCell hC a2 (by decide) (fun j' hj' e => ?_) (fun hno => absurd rfl (hno v.1 (by omega)))
      rw [← nI_inj (show v.1 < 2 ^ 31 by omega) (show j' < 2 ^ 31 by omega) e]
      conv => whnf
      have o9 : zOff (d + 1) (d + 2) h2 (zupd h2 (d + 1) (.inl (0, 10, .inl (upd cf2 v.1 (cf2 v.1 &&& Int32.ofInt (-3)))))) := zOff.up (Nat.le_refl _) (by omega)
      have k9 := ih (nI v.1) (q + 1) _ (upd cf2 v.1 (cf2 v.1 &&& Int32.ofInt (-3))) (by omega) (by omega) (fun m hm => by
        rw [hm] at b4 ⊢
        exact zcd_next hw' b3 b4) ⟨(o9 _ (by omega)).trans a1, zupd_s, (o9 _ (by omega)).trans a3⟩ (ho.tr (o9.wd (by omega) (by omega))) (fun h' cf' D9 hcf9 ho9 => G h' cf' D9 (fun i hi => by
          rw [hcf9 i hi, hke]
          by_cases c1 : i = v.1
          · rw [c1, upd_s, zand_idem, if_pos (List.mem_cons_self)]
            exact ite_self _
          · rw [upd_n c1]
            by_cases c2 : i ∈ zkeep nb L len (nI v.1) (q + 1)
            · rw [if_pos c2, if_pos (List.mem_cons_of_mem _ c2)]
            · rw [if_neg c2, if_neg (fun z => (List.mem_cons.mp z).elim c1 c2)]) ho9)
      rw [← zdec (j := len), show nI (q + 1) = nI q + 1 from (nI_1 q).symm] at k9
      refine hF _ _ _ _ _ _ _ _ ?_ k9
      intro i w hi
      match i, hi with
      | 0, hi => exact hi
      | 1, hi => exact hi
      | 2, hi => exact hi
      | 3, hi => exact hi
      | 4, hi => exact hi
      | 5, hi => exact hi
      | 6, hi => exact hi
      | 7, hi => exact nomatch hi
      | i + 8, hi => exact nomatch hi
  refine hgo [9] 40 _ _ _ _ _ _ _ ?_
  conv => whnf
  exact loop len0 (-1) 0 h cf hlx (Nat.zero_le _) (fun m hm => by rw [hlen9] at hm ⊢; rw [hm]; exact zcd_first hw' hm) H zOff.rf (fun h' cf' D9 hcf9 ho9 => H1 h' cf' D9 (by unfold zkept; rw [← hlen9]; exact hcf9) ho9)
set_option maxRecDepth 100000 in
theorem S_X2_compare {C : zK} (hC : zCld 215 zTT C) {h : zH} {n : Nat} {K : zQ} {d b b' : Nat} {B L : zB} {cf af : Nat → Int32} (H : zDc h d cf af) (hB : zBl h b 10 B) (hL : zBl h b' 15 L) (hd : (b + 3 ≤ d ∨ d + 3 ≤ b) ∧ (b' + 3 ≤ d ∨ d + 3 ≤ b')) (H1 : ∀ h', zDx h' d B.length (zchc B L) → zOff d (d + 3) h h' → K 0 none h' n) : C 36 [.ref d, .ref b, .ref b'] h n K := by
  obtain ⟨f, g, ⟨r1, -, -⟩, hlen, hN, hval, hw⟩ := hB.raw
  refine zd_X2_compare hC rfl fun P hgo hF => ?_
  have loop : ∀ e j (h2 : zH) (cf2 : Nat → Int32), j + e = B.length → zDc h2 d cf2 af → zOff d (d + 3) h h2 → (∀ i, i < j → cf2 i = nI (zrw B L i)) → P 2 [some (.ref d), some (.ref b), some (.ref b'), some (.int (nI j))] [] h2 n 0 0 := by
    intro e
    induction e with
    | zero =>
      intro j h2 cf2 hj D2 ho hcf
      have hB2 := hB.off ho hd.1
      have hL2 := hL.off ho hd.2
      have r2 := (ho _ (by omega)).trans r1
      have a1 := D2.1
      refine hgo [2] 40 _ _ _ _ _ _ _ ?_
      conv => whnf
      repeat (first
        | (refine ⟨_, by assumption, _, rfl, ?_⟩; conv => whnf)
        | (refine ⟨_, _, by assumption, Nat.le_of_ble_eq_true rfl, ?_⟩; conv => whnf)
        | (refine ⟨_, by assumption, Nat.le_of_ble_eq_true rfl, ⟨rfl, rfl⟩, ?_⟩; conv => whnf)
        | (refine ⟨_, by assumption, ?_⟩; conv => whnf))
      refine ⟨fun _ => ?_, fun q => absurd (nI_le (show B.length ≤ j by omega) (show j < 2 ^ 31 by omega)) q⟩
      conv => whnf
      repeat (first
        | (refine ⟨_, by assumption, _, rfl, ?_⟩; conv => whnf)
        | (refine ⟨_, _, by assumption, Nat.le_of_ble_eq_true rfl, ?_⟩; conv => whnf)
        | (refine ⟨_, by assumption, Nat.le_of_ble_eq_true rfl, ⟨rfl, rfl⟩, ?_⟩; conv => whnf)
        | (refine ⟨_, by assumption, ?_⟩; conv => whnf))
      refine S_X2_measureAscending (nb := B.length) hC D2 hL2 (by omega) hd.2 (fun h3 af3 D3 haf3 ho3 => ?_)
      have hB3 := hB2.off ho3 hd.1
      have hL3 := hL2.off ho3 hd.2
      have r3 := (ho3 _ (by omega)).trans r2
      have a4 := D3.1
      conv => whnf
      repeat (first
        | (refine ⟨_, by assumption, _, rfl, ?_⟩; conv => whnf)
        | (refine ⟨_, _, by assumption, Nat.le_of_ble_eq_true rfl, ?_⟩; conv => whnf)
        | (refine ⟨_, by assumption, Nat.le_of_ble_eq_true rfl, ⟨rfl, rfl⟩, ?_⟩; conv => whnf)
        | (refine ⟨_, by assumption, ?_⟩; conv => whnf))
      refine S_X2_markKept hC D3 hL3 haf3 rfl (by omega) hd.2 (fun h4 cf4 D4 hcf4 ho4 => ?_)
      conv => whnf
      exact H1 h4 ⟨by omega, cf4, af3, D4, fun i hi => ⟨by rw [hcf4 i (by omega), hcf i (by omega), zchc_raw], zchc_lt⟩⟩ ((ho.tr ho3).tr ho4)
    | succ e ih =>
      intro j h2 cf2 hj D2 ho hcf
      obtain ⟨a1, a2, a3⟩ := id D2
      have hB2 := hB.off ho hd.1
      have hL2 := hL.off ho hd.2
      have r2 := (ho _ (by omega)).trans r1
      refine hgo [2] 40 _ _ _ _ _ _ _ ?_
      conv => whnf
      repeat (first
        | (refine ⟨_, by assumption, _, rfl, ?_⟩; conv => whnf)
        | (refine ⟨_, _, by assumption, Nat.le_of_ble_eq_true rfl, ?_⟩; conv => whnf)
        | (refine ⟨_, by assumption, Nat.le_of_ble_eq_true rfl, ⟨rfl, rfl⟩, ?_⟩; conv => whnf)
        | (refine ⟨_, by assumption, ?_⟩; conv => whnf))
      refine ⟨fun q => absurd q (nI_ge (show j < B.length by omega) (show B.length < 2 ^ 31 by omega)), fun _ => ?_⟩
      conv => whnf
      repeat (first
        | (refine ⟨_, by assumption, _, rfl, ?_⟩; conv => whnf)
        | (refine ⟨_, _, by assumption, Nat.le_of_ble_eq_true rfl, ?_⟩; conv => whnf)
        | (refine ⟨_, by assumption, Nat.le_of_ble_eq_true rfl, ⟨rfl, rfl⟩, ?_⟩; conv => whnf)
        | (refine ⟨_, by assumption, ?_⟩; conv => whnf))
      refine S_X2_changeUnlessKept hC hB2 hL2 (by omega) ?_
      conv => whnf
      refine S_X6_setCell hC a2 (by decide) (fun j' hj' e => ?_) (fun hno => absurd rfl (hno j (by omega)))
      rw [← nI_inj (show j < 2 ^ 31 by omega) (show j' < 2 ^ 31 by omega) e]
      conv => whnf
      have o9 : zOff (d + 1) (d + 2) h2 (zupd h2 (d + 1) (.inl (0, 10, .inl (upd cf2 j (nI (zrw B L j)))))) := zOff.up (Nat.le_refl _) (by omega)
      have k9 := ih (j + 1) _ (upd cf2 j (nI (zrw B L j))) (by omega) ⟨(o9 _ (by omega)).trans a1, zupd_s, (o9 _ (by omega)).trans a3⟩ (ho.tr (o9.wd (by omega) (by omega))) (fun i hi => by
        by_cases c1 : i = j
        · rw [c1, upd_s]
        · rw [upd_n c1]; exact hcf i (by omega))
      rw [← zinc (j := j)] at k9
      exact k9
  refine hgo [2] 40 _ _ _ _ _ _ _ ?_
  conv => whnf
  exact loop B.length 0 h cf (by omega) H zOff.rf (fun i hi => absurd hi (Nat.not_lt_zero _))

