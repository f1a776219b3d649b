/-! CommandText -/
/-- what has been read of the command: draft, kind, first, separated, second -/
abbrev zq : Type := Int32 × Int32 × Int32 × Int32 × Int32
def zq0 : zq := (-1, -1, -1, 0, -1)
def zTx (h : zH) (t : Nat) (T : List Int32) (q : zq) : Prop := h t = .inr (1, [.ref (t + 1), .int (nI T.length), .int q.1, .int q.2.1, .int q.2.2.1, .int q.2.2.2.1, .int q.2.2.2.2]) ∧ (∃ f : Nat → Int32, h (t + 1) = .inl (0, 60, .inl f) ∧ ∀ j c, T[j]? = some c → f j = c) ∧ T.length ≤ 60
theorem zTx.off {lo hi t : Nat} {T : List Int32} {q : zq} {h h' : zH} (H : zTx h t T q) (ho : zOff lo hi h h') (hd : t + 2 ≤ lo ∨ hi ≤ t) : zTx h' t T q := by
  obtain ⟨h1, ⟨f, h2, h3⟩, h4⟩ := H
  exact ⟨(ho _ (by omega)).trans h1, ⟨f, (ho _ (by omega)).trans h2, h3⟩, h4⟩
theorem zTx.set {t : Nat} {T : List Int32} {q q' : zq} {h : zH} (H : zTx h t T q) : zTx (zupd h t (.inr (1, [.ref (t + 1), .int (nI T.length), .int q'.1, .int q'.2.1, .int q'.2.2.1, .int q'.2.2.2.1, .int q'.2.2.2.2]))) t T q' := by
  obtain ⟨h1, ⟨f, h2, h3⟩, h4⟩ := H
  exact ⟨zupd_s, ⟨f, (zupd_n (by omega)).trans h2, h3⟩, h4⟩
def zwhole (q : zq) : Prop := ¬ (if q.2.1 = 114 then q.2.2.1 else q.2.2.2.2) = -1
def zwd (o c lim : Int32) : Int32 := if c < 48 then -1 else if 57 < c then -1 else if o = 0 then -1 else if lim < (if o = -1 then 0 else o * 10) + c - 48 then -1 else (if o = -1 then 0 else o * 10) + c - 48
def ztk1 (q : zq) (c : Int32) : Int32 × zq := if (¬ q.2.2.1 = -1) ∧ (¬ q.2.1 = 114) ∧ c = (if q.2.1 = 109 then 62 else 61) then (1, (q.1, q.2.1, q.2.2.1, 1, q.2.2.2.2)) else
  if zwd q.2.2.1 c 15 = -1 then (0, q) else (1, (q.1, q.2.1, zwd q.2.2.1 c 15, q.2.2.2.1, q.2.2.2.2))
def ztk2 (q : zq) (c : Int32) : Int32 × zq := if zwd q.2.2.2.2 c (if q.2.1 = 109 then 15 else 99) = -1 then (0, q) else (1, (q.1, q.2.1, q.2.2.1, q.2.2.2.1, zwd q.2.2.2.2 c (if q.2.1 = 109 then 15 else 99)))
def ztkD (q : zq) (c : Int32) : Int32 × zq := if c = 48 ∨ c = 49 then (1, (c - 48, q.2.1, q.2.2.1, q.2.2.2.1, q.2.2.2.2)) else (0, q)
def ztkK (q : zq) (c : Int32) : Int32 × zq := if c = 101 ∨ c = 109 ∨ c = 105 ∨ c = 114 then (1, (q.1, c, q.2.2.1, q.2.2.2.1, q.2.2.2.2)) else (0, q)
noncomputable def ztk (q : zq) (c : Int32) : Int32 × zq := by
  classical
  exact if c = 59 ∧ zwhole q then (1, zq0) else if q.1 = -1 then ztkD q c else if q.2.1 = -1 then ztkK q c else if q.2.2.2.1 = 0 then ztk1 q c else ztk2 q c
set_option maxRecDepth 100000 in
theorem S_X1_codeAt {C : zK} (hC : zCld 215 zTT C) {h : zH} {n : Nat} {K : zQ} {t : Nat} {T : List Int32} {q : zq} (H : zTx h t T q) {i : Int32} (H1 : ∀ j c, T[j]? = some c → i = nI j → K 0 (some (.int c)) h n) (H0 : (∀ j, j < T.length → i ≠ nI j) → K 0 (some (.int (-1))) h n) : C 17 [.ref t, .int i] h n K := by
  obtain ⟨h1, ⟨f, h2, h3⟩, h4⟩ := id H
  refine zd_X1_codeAt hC rfl fun P hgo hF => ?_
  refine hgo [] 30 _ _ _ _ _ _ _ ?_
  conv => whnf
  refine ⟨fun k1 => ?_, fun k1 => ?_⟩
  · conv => whnf
    exact H0 fun j hj e => nI_pos (show j < 2 ^ 31 by omega) (e ▸ k1)
  · conv => whnf
    repeat (first
      | (refine ⟨_, by assumption, _, rfl, ?_⟩; conv => whnf)
      | (refine ⟨_, _, by assumption, Nat.le_of_ble_eq_true rfl, ?_⟩; conv => whnf)
      | (refine ⟨_, by assumption, Nat.le_of_ble_eq_true rfl, ⟨rfl, rfl⟩, ?_⟩; conv => whnf)
      | (refine ⟨_, by assumption, ?_⟩; conv => whnf))
    refine ⟨fun k2 => ?_, fun k2 => ?_⟩
    · conv => whnf
      exact H0 fun j hj e => nI_ge hj (show T.length < 2 ^ 31 by omega) (e ▸ k2)
    · conv => whnf
      obtain ⟨j, hj, rfl⟩ : ∃ j, j < T.length ∧ i = nI j := by
        rcases pk_ix i (show T.length < 2 ^ 31 by omega) with z | z | z
        · exact absurd z k1
        · exact absurd z k2
        · exact z
      repeat (first
        | (refine ⟨_, by assumption, _, rfl, ?_⟩; conv => whnf)
        | (refine ⟨_, _, by assumption, Nat.le_of_ble_eq_true rfl, ?_⟩; conv => whnf)
        | (refine ⟨_, by assumption, Nat.le_of_ble_eq_true rfl, ⟨rfl, rfl⟩, ?_⟩; conv => whnf)
        | (refine ⟨_, by assumption, ?_⟩; conv => whnf))
      refine S_getC hC h2 (by decide) (show j < 60 by omega) ?_
      conv => whnf
      have hg : T[j]? = some T[j] := List.getElem?_eq_getElem hj
      rw [h3 j _ hg]
      exact H1 j _ hg rfl
set_option maxRecDepth 100000 in
theorem S_X1_putLast {C : zK} (hC : zCld 215 zTT C) {h : zH} {n : Nat} {K : zQ} {t : Nat} {T : List Int32} {q : zq} (H : zTx h t T q) (hl : T.length < 60) {c : Int32} (H1 : ∀ h', zTx h' t (T ++ [c]) q → zOff t (t + 2) h h' → K 0 (some (.int (nI (T.length + 1)))) h' n) : C 18 [.ref t, .int c] h n K := by
  obtain ⟨h1, ⟨f, h2, h3⟩, h4⟩ := id H
  refine zd_X1_putLast hC rfl fun P hgo hF => ?_
  refine hgo [] 60 _ _ _ _ _ _ _ ?_
  conv => whnf
  refine ⟨_, h1, _, rfl, ?_⟩
  conv => whnf
  refine ⟨_, h1, _, rfl, ?_⟩
  conv => whnf
  refine ⟨_, _, h2, Nat.le_of_ble_eq_true rfl, ?_⟩
  conv => whnf
  refine ⟨fun k => absurd k (show ¬ nI 60 ≤ nI T.length from nI_ge hl (by decide)), fun _ => ?_⟩
  conv => whnf
  refine ⟨_, h1, _, rfl, ?_⟩
  conv => whnf
  refine ⟨_, h1, _, rfl, ?_⟩
  conv => whnf
  refine S_X6_setCell hC h2 (by decide) (fun j hj e => ?_) (fun hno => absurd rfl (hno T.length hl))
  rw [← nI_inj (show T.length < 2 ^ 31 by omega) (show j < 2 ^ 31 by omega) e]
  have a1 := (zupd_n (h := h) (c := .inl (0, 60, .inl (upd f T.length c))) (show t ≠ t + 1 by omega)).trans h1
  conv => whnf
  refine ⟨_, a1, _, rfl, ?_⟩
  conv => whnf
  refine ⟨_, a1, Nat.le_of_ble_eq_true rfl, ⟨rfl, rfl⟩, ?_⟩
  conv => whnf
  refine ⟨_, zupd_s, _, rfl, ?_⟩
  conv => whnf
  rw [show nI T.length + 1 = nI (T.length + 1) from nI_1 _]
  refine H1 _ ⟨?_, ⟨_, (zupd_n (by omega)).trans zupd_s, fun j c' hj => ?_⟩, by rw [List.length_append]; show T.length + 1 ≤ 60; omega⟩ ((zOff.up (by omega) (by omega)).tr (zOff.up (by omega) (by omega)))
  · rw [List.length_append]
    exact zupd_s
  · by_cases e1 : j < T.length
    · rw [List.getElem?_append_left e1] at hj
      rw [upd_n (by omega)]
      exact h3 j c' hj
    · have hjl := (List.getElem?_eq_some_iff.mp hj).1
      rw [List.length_append] at hjl
      have e2 : j = T.length := by
        have : [c].length = 1 := rfl
        omega
      rw [e2, List.getElem?_append_right (Nat.le_refl _), Nat.sub_self] at hj
      cases hj
      rw [e2, upd_s]
set_option maxRecDepth 100000 in
theorem S_X1_forget {C : zK} (hC : zCld 215 zTT C) {h : zH} {n : Nat} {K : zQ} {t : Nat} {T : List Int32} {q : zq} (H : zTx h t T q) (H1 : ∀ h', zTx h' t [] q → zOff t (t + 2) h h' → K 0 (some (.int (nI T.length))) h' n) : C 19 [.ref t] h n K := by
  obtain ⟨h1, ⟨f, h2, h3⟩, h4⟩ := id H
  refine zd_X1_forget hC rfl fun P hgo hF => ?_
  refine hgo [] 60 _ _ _ _ _ _ _ ?_
  conv => whnf
  refine ⟨_, h1, _, rfl, ?_⟩
  conv => whnf
  refine ⟨_, h1, Nat.le_of_ble_eq_true rfl, ⟨rfl, rfl⟩, ?_⟩
  conv => whnf
  exact H1 _ ⟨zupd_s, ⟨f, (zupd_n (by omega)).trans h2, fun j c hj => nomatch hj⟩, by decide⟩ (zOff.up (by omega) (by omega))
set_option maxRecDepth 100000 in
theorem S_X1_beginReading {C : zK} (hC : zCld 215 zTT C) {h : zH} {n : Nat} {K : zQ} {t : Nat} {T : List Int32} {q : zq} (H : zTx h t T q) (H1 : ∀ h', zTx h' t T zq0 → zOff t (t + 2) h h' → K 0 none h' n) : C 22 [.ref t] h n K := by
  obtain ⟨h1, ⟨f, h2, h3⟩, h4⟩ := id H
  refine zd_X1_beginReading hC rfl fun P hgo hF => ?_
  refine hgo [] 60 _ _ _ _ _ _ _ ?_
  conv => whnf
  refine ⟨_, h1, Nat.le_of_ble_eq_true rfl, ⟨rfl, rfl⟩, ?_⟩
  conv => whnf
  refine ⟨_, zupd_s, Nat.le_of_ble_eq_true rfl, ⟨rfl, rfl⟩, ?_⟩
  conv => whnf
  refine ⟨_, zupd_s, Nat.le_of_ble_eq_true rfl, ⟨rfl, rfl⟩, ?_⟩
  conv => whnf
  refine ⟨_, zupd_s, Nat.le_of_ble_eq_true rfl, ⟨by decide, by decide⟩, ?_⟩
  conv => whnf
  refine ⟨_, zupd_s, Nat.le_of_ble_eq_true rfl, ⟨rfl, rfl⟩, ?_⟩
  conv => whnf
  have o1 : ∀ (g : zH) (c : zC), zOff t (t + 2) g (zupd g t c) := fun g c => zOff.up (Nat.le_refl t) (by omega)
  have o9 := ((((o1 h (.inr (1, [.ref (t + 1), .int (nI T.length), .int (-1), .int q.2.1, .int q.2.2.1, .int q.2.2.2.1, .int q.2.2.2.2]))).tr (o1 _ (.inr (1, [.ref (t + 1), .int (nI T.length), .int (-1), .int (-1), .int q.2.2.1, .int q.2.2.2.1, .int q.2.2.2.2])))).tr (o1 _ (.inr (1, [.ref (t + 1), .int (nI T.length), .int (-1), .int (-1), .int (-1), .int q.2.2.2.1, .int q.2.2.2.2])))).tr (o1 _ (.inr (1, [.ref (t + 1), .int (nI T.length), .int (-1), .int (-1), .int (-1), .int 0, .int q.2.2.2.2])))).tr (o1 _ (.inr (1, [.ref (t + 1), .int (nI T.length), .int (-1), .int (-1), .int (-1), .int 0, .int (-1)])))
  exact H1 _ ⟨zupd_s, ⟨f, by
    show zupd _ _ _ _ = _
    rw [zupd_n (by omega), zupd_n (by omega), zupd_n (by omega), zupd_n (by omega), zupd_n (by omega)]
    exact h2, h3⟩, h4⟩ o9
set_option maxRecDepth 100000 in
theorem S_X1_commandIsWhole {C : zK} (hC : zCld 215 zTT C) {h : zH} {n : Nat} {K : zQ} {t : Nat} {T : List Int32} {q : zq} (H : zTx h t T q) (H1 : zwhole q → K 0 (some (.int 1)) h n) (H0 : ¬ zwhole q → K 0 (some (.int 0)) h n) : C 23 [.ref t] h n K := by
  obtain ⟨h1, -⟩ := id H
  unfold zwhole at H1 H0
  refine zd_X1_commandIsWhole hC rfl fun P hgo hF => ?_
  refine hgo [] 60 _ _ _ _ _ _ _ ?_
  conv => whnf
  refine ⟨_, h1, _, rfl, ?_⟩
  conv => whnf
  refine ⟨fun k => ?_, fun k => ?_⟩
  · rw [if_neg k] at H1 H0
    conv => whnf
    repeat (first
      | (refine ⟨_, by assumption, _, rfl, ?_⟩; conv => whnf)
      | (refine ⟨_, _, by assumption, Nat.le_of_ble_eq_true rfl, ?_⟩; conv => whnf)
      | (refine ⟨_, by assumption, Nat.le_of_ble_eq_true rfl, ⟨rfl, rfl⟩, ?_⟩; conv => whnf)
      | (refine ⟨_, by assumption, ?_⟩; conv => whnf))
    refine ⟨fun k2 => ?_, fun k2 => ?_⟩
    · conv => whnf
      exact ⟨Or.inl rfl, H0 (fun z => z k2)⟩
    · conv => whnf
      exact ⟨Or.inr rfl, H1 k2⟩
  · rw [if_pos k] at H1 H0
    conv => whnf
    repeat (first
      | (refine ⟨_, by assumption, _, rfl, ?_⟩; conv => whnf)
      | (refine ⟨_, _, by assumption, Nat.le_of_ble_eq_true rfl, ?_⟩; conv => whnf)
      | (refine ⟨_, by assumption, Nat.le_of_ble_eq_true rfl, ⟨rfl, rfl⟩, ?_⟩; conv => whnf)
      | (refine ⟨_, by assumption, ?_⟩; conv => whnf))
    refine ⟨fun k2 => ?_, fun k2 => ?_⟩
    · conv => whnf
      exact ⟨Or.inl rfl, H0 (fun z => z k2)⟩
    · conv => whnf
      exact ⟨Or.inr rfl, H1 k2⟩
set_option maxRecDepth 100000 in
theorem S_X1_withDigit {C : zK} (hC : zCld 215 zTT C) {h : zH} {n : Nat} {K : zQ} {o c lim : Int32} (H1 : K 0 (some (.int (zwd o c lim))) h n) : C 29 [.int o, .int c, .int lim] h n K := by
  unfold zwd at H1
  refine zd_X1_withDigit hC rfl fun P hgo hF => ?_
  refine hgo [] 60 _ _ _ _ _ _ _ ?_
  conv => whnf
  refine ⟨fun k => ?_, fun k => ?_⟩
  · rw [if_pos k] at H1
    conv => whnf
    exact H1
  · rw [if_neg k] at H1
    conv => whnf
    refine ⟨fun k2 => ?_, fun k2 => ?_⟩
    · rw [if_pos k2] at H1
      conv => whnf
      exact H1
    · rw [if_neg k2] at H1
      conv => whnf
      refine ⟨fun k3 => ?_, fun k3 => ?_⟩
      · rw [if_neg k3] at H1
        conv => whnf
        refine ⟨fun k4 => ?_, fun k4 => ?_⟩
        · rw [if_neg k4] at H1
          conv => whnf
          refine ⟨fun k5 => ?_, fun k5 => ?_⟩
          · rw [if_pos k5] at H1
            conv => whnf
            exact H1
          · rw [if_neg k5] at H1
            conv => whnf
            exact H1
        · rw [if_pos k4] at H1
          conv => whnf
          refine ⟨fun k5 => ?_, fun k5 => ?_⟩
          · rw [if_pos k5] at H1
            conv => whnf
            exact H1
          · rw [if_neg k5] at H1
            conv => whnf
            exact H1
      · rw [if_pos k3] at H1
        conv => whnf
        exact H1

