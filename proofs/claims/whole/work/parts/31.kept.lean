/-! DraftChanges: the kept sequence, what a draft does -/
def znm (L : zB) (p : Nat) : Nat := match L[p]? with
  | some v => v.1
  | none => 0
theorem znm_at {L : zB} {p : Nat} {v : Nat × Nat} (h : L[p]? = some v) : znm L p = v.1 := by
  unfold znm
  rw [h]
def zstp (nb : Nat) (L : zB) (len : Nat) (la : Int32) (best : Option Nat) (p : Nat) : Option Nat := if zal nb L p = len ∧ la < nI (znm L p) then (match best with
    | none => some p
    | some q => if znm L p < znm L q then some p else some q) else best
/-- the place of the least number that begins an ascending sequence of this length -/
def zls (nb : Nat) (L : zB) (len : Nat) (la : Int32) : Nat → Nat → Option Nat → Option Nat
  | 0, _, best => best
  | d + 1, p, best => zls nb L len la d (p + 1) (zstp nb L len la best p)
def zkeep (nb : Nat) (L : zB) : Nat → Int32 → Nat → List Nat
  | 0, _, _ => []
  | len + 1, la, fr => match zls nb L (len + 1) la (L.length - fr) fr none with
    | none => []
    | some p => znm L p :: zkeep nb L len (nI (znm L p)) (p + 1)
def zkept (nb : Nat) (L : zB) : List Nat := zkeep nb L (zlx (zas nb L)) (-1) 0
def zcd (nb : Nat) (L : zB) (len : Nat) (la : Int32) (fr : Nat) : Prop := ∃ p v, fr ≤ p ∧ L[p]? = some v ∧ zal nb L p = len ∧ la < nI v.1
theorem zstp_in {nb : Nat} {L : zB} {len : Nat} {la : Int32} {best : Option Nat} {p q : Nat} (h : zstp nb L len la best p = some q) : (q = p ∧ zal nb L p = len ∧ la < nI (znm L p)) ∨ best = some q := by
  unfold zstp at h
  by_cases c : zal nb L p = len ∧ la < nI (znm L p)
  · rw [if_pos c] at h
    cases best with
    | none => cases h; exact Or.inl ⟨rfl, c⟩
    | some r =>
      simp only at h
      by_cases c2 : znm L p < znm L r
      · rw [if_pos c2] at h; cases h; exact Or.inl ⟨rfl, c⟩
      · rw [if_neg c2] at h; exact Or.inr h
  · rw [if_neg c] at h; exact Or.inr h
theorem zls_in {nb : Nat} {L : zB} {len : Nat} {la : Int32} : ∀ (d p : Nat) (best : Option Nat) (q : Nat), zls nb L len la d p best = some q → (p ≤ q ∧ q < p + d ∧ zal nb L q = len ∧ la < nI (znm L q)) ∨ best = some q := by
  intro d
  induction d with
  | zero => intro p best q h; exact Or.inr h
  | succ d ih =>
    intro p best q h
    rcases ih (p + 1) _ q h with h1 | h1
    · exact Or.inl ⟨by omega, by omega, h1.2.2⟩
    · rcases zstp_in h1 with ⟨e, h2⟩ | h2
      · rw [e]; exact Or.inl ⟨by omega, by omega, h2⟩
      · exact Or.inr h2
theorem zls_some {nb : Nat} {L : zB} {len : Nat} {la : Int32} : ∀ (d p : Nat) (r : Nat), ∃ q, zls nb L len la d p (some r) = some q := by
  intro d
  induction d with
  | zero => intro p r; exact ⟨r, rfl⟩
  | succ d ih =>
    intro p r
    show ∃ q, zls nb L len la d (p + 1) (zstp nb L len la (some r) p) = some q
    unfold zstp
    by_cases c : zal nb L p = len ∧ la < nI (znm L p)
    · rw [if_pos c]
      show ∃ q, zls nb L len la d (p + 1) (if znm L p < znm L r then some p else some r) = some q
      split
      · exact ih _ _
      · exact ih _ _
    · rw [if_neg c]
      exact ih _ _
theorem zls_ex {nb : Nat} {L : zB} {len : Nat} {la : Int32} : ∀ (d p q : Nat), p ≤ q → q < p + d → zal nb L q = len → la < nI (znm L q) → ∀ best, ∃ r, zls nb L len la d p best = some r := by
  intro d
  induction d with
  | zero => intro p q h1 h2; omega
  | succ d ih =>
    intro p q h1 h2 h3 h4 best
    by_cases e : q = p
    · show ∃ r, zls nb L len la d (p + 1) (zstp nb L len la best p) = some r
      rw [e] at h3 h4
      unfold zstp
      rw [if_pos ⟨h3, h4⟩]
      cases best with
      | none => exact zls_some _ _ _
      | some r =>
        simp only
        split <;> exact zls_some _ _ _
    · exact ih (p + 1) q (by omega) (by omega) h3 h4 _
/-- where there is a candidate, one is found, and it is one -/
theorem zls_cd {nb : Nat} {L : zB} {len : Nat} {la : Int32} {fr : Nat} (h : zcd nb L len la fr) : ∃ q v, zls nb L len la (L.length - fr) fr none = some q ∧ fr ≤ q ∧ L[q]? = some v ∧ zal nb L q = len ∧ la < nI v.1 := by
  obtain ⟨p, v, h1, h2, h3, h4⟩ := h
  have hl := (List.getElem?_eq_some_iff.mp h2).1
  obtain ⟨r, hr⟩ := zls_ex (nb := nb) (L := L) (len := len) (la := la) (L.length - fr) fr p h1 (by omega) h3 (by rw [znm_at h2]; exact h4) none
  rcases zls_in _ _ _ _ hr with ⟨a1, a2, a3, a4⟩ | a1
  · obtain ⟨u, hu⟩ : ∃ u, L[r]? = some u := ⟨L[r], List.getElem?_eq_getElem (by omega)⟩
    rw [znm_at hu] at a4
    exact ⟨r, u, hr, a1, hu, a3, a4⟩
  · exact nomatch a1
theorem zal_drop {nb : Nat} {L : zB} {k i : Nat} : zal nb (L.drop k) i = zal nb L (k + i) := by
  unfold zal
  rw [List.drop_drop]
theorem zbm_ex {nb x m : Nat} : ∀ (M : zB), zbm x M (zas nb M) = m + 1 → ∃ i u, M[i]? = some u ∧ x < u.1 ∧ zal nb M i = m + 1 := by
  intro M
  induction M with
  | nil => intro h; exact nomatch h
  | cons u M ih =>
    intro h
    have h' : max (if x < u.1 then zal nb (u :: M) 0 else 0) (zbm x M (zas nb M)) = m + 1 := h
    by_cases c : x < u.1
    · rw [if_pos c] at h'
      rcases Nat.le_total (zal nb (u :: M) 0) (zbm x M (zas nb M)) with c2 | c2
      · rw [Nat.max_eq_right c2] at h'
        obtain ⟨i, w, a1, a2, a3⟩ := ih h'
        exact ⟨i + 1, w, a1, a2, a3⟩
      · rw [Nat.max_eq_left c2] at h'
        exact ⟨0, u, rfl, c, h'⟩
    · rw [if_neg c, Nat.max_eq_right (Nat.zero_le _)] at h'
      obtain ⟨i, w, a1, a2, a3⟩ := ih h'
      exact ⟨i + 1, w, a1, a2, a3⟩
theorem zlx_ex {nb m : Nat} : ∀ (M : zB), zlx (zas nb M) = m + 1 → ∃ i u, M[i]? = some u ∧ zal nb M i = m + 1 := by
  intro M
  induction M with
  | nil => intro h; exact nomatch h
  | cons u M ih =>
    intro h
    have h' : max (zal nb (u :: M) 0) (zlx (zas nb M)) = m + 1 := h
    rcases Nat.le_total (zal nb (u :: M) 0) (zlx (zas nb M)) with c2 | c2
    · rw [Nat.max_eq_right c2] at h'
      obtain ⟨i, w, a1, a3⟩ := ih h'
      exact ⟨i + 1, w, a1, a3⟩
    · rw [Nat.max_eq_left c2] at h'
      exact ⟨0, u, rfl, h'⟩
theorem nI_gt_m1 {j : Nat} (h : j < 2 ^ 31) : (-1 : Int32) < nI j := by
  rw [Int32.lt_iff_toInt_lt, nI_toInt h]
  have : (-1 : Int32).toInt = -1 := by decide
  omega
theorem zcd_first {nb m : Nat} {L : zB} (hb : ∀ v ∈ L, v.1 < 1000) (h : zlx (zas nb L) = m + 1) : zcd nb L (m + 1) (-1) 0 := by
  obtain ⟨i, u, a1, a3⟩ := zlx_ex L h
  exact ⟨i, u, Nat.zero_le _, a1, a3, nI_gt_m1 (by have := hb u (List.mem_of_getElem? a1); omega)⟩
theorem zcd_next {nb m p : Nat} {L : zB} {v : Nat × Nat} (hb : ∀ v ∈ L, v.1 < 1000) (hv : L[p]? = some v) (h : zal nb L p = m + 1 + 1) : zcd nb L (m + 1) (nI v.1) (p + 1) := by
  rw [zal_at hv] at h
  by_cases c : v.1 < nb
  · rw [if_pos c] at h
    obtain ⟨i, u, a1, a2, a3⟩ := zbm_ex (nb := nb) (x := v.1) (m := m) (L.drop (p + 1)) (by omega)
    rw [List.getElem?_drop] at a1
    rw [zal_drop] at a3
    exact ⟨p + 1 + i, u, by omega, a1, a3, nI_lt a2 (by have := hb u (List.mem_of_getElem? a1); omega)⟩
  · rw [if_neg c] at h; exact nomatch h
theorem zal_pos {nb m p : Nat} {L : zB} {v : Nat × Nat} (hv : L[p]? = some v) (h : zal nb L p = m + 1) : v.1 < nb := by
  rw [zal_at hv] at h
  by_cases c : v.1 < nb
  · exact c
  · rw [if_neg c] at h; exact nomatch h
def zon : Option Nat → Int32
  | none => -1
  | some k => nI k
set_option maxRecDepth 100000 in
theorem S_X2_leastStart {C : zK} (hC : zCld 215 zTT C) {h : zH} {n : Nat} {K : zQ} {d b nb len fr : Nat} {la : Int32} {L : zB} {cf af : Nat → Int32} (H : zDc h d cf af) (hB : zBl h b 15 L) (haf : ∀ j, j < L.length → af j = nI (zal nb L j)) (hlen9 : len ≤ 1000) (hfr : fr ≤ L.length) (H1 : K 0 (some (.int (zon (zls nb L len la (L.length - fr) fr none)))) h n) : C 41 [.ref d, .int (nI len), .int la, .int (nI fr), .ref b] h n K := by
  obtain ⟨h1, h2, h3⟩ := id H
  have hB0 := hB
  obtain ⟨f, g, ⟨b1, -, -⟩, hlen, hN, hval, hw⟩ := hB.raw
  refine zd_X2_leastStart hC rfl fun P hgo hF => ?_
  have loop : ∀ e j best, j + e = L.length → (∀ q, best = some q → q < L.length) → zls nb L len la e j best = zls nb L len la (L.length - fr) fr none → P 6 [some (.ref d), some (.int (nI len)), some (.int la), some (.int (nI fr)), some (.ref b), some (.int (zon best)), some (.int (nI j)), none] [] h n 0 0 := by
    intro e
    induction e with
    | zero =>
      intro j best hj hbest hinv
      refine hgo [6] 60 _ _ _ _ _ _ _ ?_
      conv => whnf
      repeat (first
        | (refine ⟨_, by assumption, _, rfl, ?_⟩; conv => whnf)
        | (refine ⟨_, _, by assumption, Nat.le_of_ble_eq_true rfl, ?_⟩; conv => whnf)
        | (refine ⟨_, by assumption, Nat.le_of_ble_eq_true rfl, ⟨rfl, rfl⟩, ?_⟩; conv => whnf)
        | (refine ⟨_, by assumption, ?_⟩; conv => whnf))
      refine ⟨fun _ => ?_, fun q => absurd (nI_le (show L.length ≤ j by omega) (show j < 2 ^ 31 by omega)) q⟩
      conv => whnf
      rw [← hinv] at H1
      exact H1
    | succ e ih =>
      intro j best hj hbest hinv
      obtain ⟨v, hv⟩ : ∃ v, L[j]? = some v := ⟨L[j], List.getElem?_eq_getElem (by omega)⟩
      have hvb := hw v (List.mem_of_getElem? hv)
      have hza := zal_le (nb := nb) (L := L) (p := j)
      have hinv' : zls nb L len la e (j + 1) (zstp nb L len la best j) = zls nb L len la (L.length - fr) fr none := hinv
      have nx : ∀ best', zstp nb L len la best j = best' → (∀ q, best' = some q → q < L.length) → P 66 [some (.ref d), some (.int (nI len)), some (.int la), some (.int (nI fr)), some (.ref b), some (.int (zon best')), some (.int (nI j)), some (.int (nI v.1))] [] h n 0 0 := by
        intro best' e9 hb9
        rw [e9] at hinv'
        refine hgo [6] 60 _ _ _ _ _ _ _ ?_
        conv => whnf
        have k9 := ih (j + 1) best' (by omega) hb9 hinv'
        rw [← zinc] at k9
        refine hF _ _ _ _ _ _ _ _ ?_ k9
        intro i w hi
        match i, hi with
        | 0, hi => exact hi
        | 1, hi => exact hi
        | 2, hi => exact hi
        | 3, hi => exact hi
        | 4, hi => exact hi
        | 5, hi => exact hi
        | 6, hi => exact hi
        | 7, hi => exact nomatch hi
        | i + 8, hi => exact nomatch hi
      have yes : zstp nb L len la best j = some j → P 62 [some (.ref d), some (.int (nI len)), some (.int la), some (.int (nI fr)), some (.ref b), some (.int (zon best)), some (.int (nI j)), some (.int (nI v.1))] [] h n 0 0 := by
        intro e9
        refine hgo [66] 60 _ _ _ _ _ _ _ ?_
        conv => whnf
        exact nx (some j) e9 (fun q hq => by cases hq; omega)
      refine hgo [6, 62, 66] 60 _ _ _ _ _ _ _ ?_
      conv => whnf
      repeat (first
        | (refine ⟨_, by assumption, _, rfl, ?_⟩; conv => whnf)
        | (refine ⟨_, _, by assumption, Nat.le_of_ble_eq_true rfl, ?_⟩; conv => whnf)
        | (refine ⟨_, by assumption, Nat.le_of_ble_eq_true rfl, ⟨rfl, rfl⟩, ?_⟩; conv => whnf)
        | (refine ⟨_, by assumption, ?_⟩; conv => whnf))
      refine ⟨fun q => absurd q (nI_ge (show j < L.length by omega) (show L.length < 2 ^ 31 by omega)), fun _ => ?_⟩
      conv => whnf
      repeat (first
        | (refine ⟨_, by assumption, _, rfl, ?_⟩; conv => whnf)
        | (refine ⟨_, _, by assumption, Nat.le_of_ble_eq_true rfl, ?_⟩; conv => whnf)
        | (refine ⟨_, by assumption, Nat.le_of_ble_eq_true rfl, ⟨rfl, rfl⟩, ?_⟩; conv => whnf)
        | (refine ⟨_, by assumption, ?_⟩; conv => whnf))
      refine S_numAt hC hB0 hv ?_
      conv => whnf
      repeat (first
        | (refine ⟨_, by assumption, _, rfl, ?_⟩; conv => whnf)
        | (refine ⟨_, _, by assumption, Nat.le_of_ble_eq_true rfl, ?_⟩; conv => whnf)
        | (refine ⟨_, by assumption, Nat.le_of_ble_eq_true rfl, ⟨rfl, rfl⟩, ?_⟩; conv => whnf)
        | (refine ⟨_, by assumption, ?_⟩; conv => whnf))
      refine S_getC hC h3 (by decide) (show j < 15 by omega) ?_
      rw [haf j (by omega)]
      conv => whnf
      refine ⟨fun q => ?_, fun q => ?_⟩
      · conv => whnf
        refine nx best ?_ hbest
        unfold zstp
        rw [if_neg (fun z => q (by rw [z.1]))]
      · have hq1 := nI_inj (by omega) (by omega) q
        conv => whnf
        refine ⟨fun q2 => ?_, fun q2 => ?_⟩
        · conv => whnf
          refine nx best ?_ hbest
          unfold zstp
          rw [if_neg (fun z => by rw [znm_at hv] at z; exact Int32.not_le.mpr z.2 q2)]
        · have hcd : zal nb L j = len ∧ la < nI (znm L j) := ⟨hq1, by rw [znm_at hv]; exact Int32.not_le.mp q2⟩
          conv => whnf
          refine ⟨fun q3 => ?_, fun q3 => ?_⟩
          · conv => whnf
            refine yes ?_
            unfold zstp
            rw [if_pos hcd]
            cases best with
            | none => rfl
            | some r =>
              exact absurd q3 (nI_ne_m1 (by have := hbest r rfl; omega))
          · obtain ⟨r, hr⟩ : ∃ r, best = some r := by
              cases best with
              | none => exact absurd rfl q3
              | some r => exact ⟨r, rfl⟩
            obtain ⟨u, hu⟩ : ∃ u, L[r]? = some u := ⟨L[r]'(hbest r hr), List.getElem?_eq_getElem (hbest r hr)⟩
            have hub := hw u (List.mem_of_getElem? hu)
            conv => whnf
            repeat (first
              | (refine ⟨_, by assumption, _, rfl, ?_⟩; conv => whnf)
              | (refine ⟨_, _, by assumption, Nat.le_of_ble_eq_true rfl, ?_⟩; conv => whnf)
              | (refine ⟨_, by assumption, Nat.le_of_ble_eq_true rfl, ⟨rfl, rfl⟩, ?_⟩; conv => whnf)
              | (refine ⟨_, by assumption, ?_⟩; conv => whnf))
            rw [hr]
            refine S_numAt hC hB0 hu ?_
            conv => whnf
            refine ⟨fun q4 => ?_, fun q4 => ?_⟩
            · conv => whnf
              have k9 := nx (some r) (by
                unfold zstp
                rw [if_pos hcd, hr, znm_at hv]
                show (if v.1 < znm L r then some j else some r) = some r
                rw [znm_at hu, if_neg (fun z => nI_ge z (by omega) q4)]) (fun q hq => by cases hq; exact hbest r hr)
              exact k9
            · have hlt : v.1 < u.1 := Nat.lt_of_not_le fun z => q4 (nI_le z (by omega))
              conv => whnf
              have k9 := yes (by
                unfold zstp
                rw [if_pos hcd, hr, znm_at hv]
                show (if v.1 < znm L r then some j else some r) = some j
                rw [znm_at hu, if_pos hlt])
              rw [hr] at k9
              exact k9
  refine hgo [6] 60 _ _ _ _ _ _ _ ?_
  conv => whnf
  exact loop (L.length - fr) fr none (by omega) (fun q hq => nomatch hq) rfl

