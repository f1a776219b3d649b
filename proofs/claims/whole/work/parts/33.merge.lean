/-! Merge: what it decides for each block of the base -/
theorem zBl.eq {b N : Nat} {L : zB} {h h' : zH} (hB : zBl h b N L) (ho : ∀ a, b ≤ a → a < b + 3 → h' a = h a) : zBl h' b N L := by
  obtain ⟨f, g, h1, h2, h3, r⟩ := hB
  exact ⟨f, g, by rw [ho _ (by omega) (by omega)]; exact h1, by rw [ho _ (by omega) (by omega)]; exact h2, by rw [ho _ (by omega) (by omega)]; exact h3, r⟩
theorem zRaw.eq {h : zH} {b N : Nat} {c : Int32} {f g : Nat → Int32} {h' : zH} (r : zRaw h b N c f g) (ho : ∀ a, b ≤ a → a < b + 3 → h' a = h a) : zRaw h' b N c f g := ⟨(ho _ (by omega) (by omega)).trans r.1, (ho _ (by omega) (by omega)).trans r.2.1, (ho _ (by omega) (by omega)).trans r.2.2⟩
theorem zDx.eq {d nb : Nat} {c : Nat → Nat} {h h' : zH} (H : zDx h d nb c) (ho : ∀ a, d ≤ a → a < d + 3 → h' a = h a) : zDx h' d nb c := by
  obtain ⟨h1, cf, af, ⟨h2, h3, h4⟩, h5⟩ := H
  exact ⟨h1, cf, af, ⟨(ho _ (by omega) (by omega)).trans h2, (ho _ (by omega) (by omega)).trans h3, (ho _ (by omega) (by omega)).trans h4⟩, h5⟩
/-- nothing has changed but the rows of what is decided -/
def zOm (m : Nat) (h h' : zH) : Prop := ∀ a, a ≠ m → (a < m + 10 ∨ m + 14 ≤ a) → h' a = h a
theorem zOm.rf {m : Nat} {h : zH} : zOm m h h := fun _ _ _ => rfl
theorem zOm.tr {m : Nat} {h h1 h2 : zH} (a : zOm m h h1) (b : zOm m h1 h2) : zOm m h h2 := fun q hq hr => (b q hq hr).trans (a q hq hr)
theorem zOm.wd {m : Nat} {h h1 : zH} (a : zOm m h h1) : zOff m (m + 14) h h1 := fun q hq => a q (by omega) (by omega)
theorem zOm.up {m a : Nat} {h : zH} {c : zC} (h1 : a = m ∨ (m + 10 ≤ a ∧ a < m + 14)) : zOm m h (zupd h a c) := fun q hq hr => by
  unfold zupd
  rw [if_neg (by omega)]
theorem zOm.bl {m N : Nat} {L : zB} {h h' : zH} (ho : zOm m h h') (hB : zBl h (m + 1) N L) : zBl h' (m + 1) N L := hB.eq fun a h1 h2 => ho a (by omega) (by omega)
theorem zOm.dx {m d nb : Nat} {c : Nat → Nat} {h h' : zH} (ho : zOm m h h') (H : zDx h d nb c) (h1 : m < d) (h2 : d + 3 ≤ m + 10) : zDx h' d nb c := H.eq fun a h3 h4 => ho a (by omega) (by omega)
/-- the rows of what is decided lie at m -/
def zMg (h : zH) (m k : Nat) (cb ck pl ct : Nat → Int32) : Prop := h m = .inr (4, [.ref (m + 1), .ref (m + 4), .ref (m + 7), .ref (m + 10), .ref (m + 11), .int (nI k), .ref (m + 12), .ref (m + 13)]) ∧ h (m + 10) = .inl (0, 30, .inl cb) ∧ h (m + 11) = .inl (0, 30, .inl ck) ∧ h (m + 12) = .inl (0, 10, .inl pl) ∧ h (m + 13) = .inl (0, 10, .inl ct)
def zMk (h : zH) (m : Nat) (Q : zB) (pl ct : Nat → Int32) : Prop := ∃ cb ck : Nat → Int32, zMg h m Q.length cb ck pl ct ∧ Q.length ≤ 30 ∧ (∀ j v, Q[j]? = some v → cb j = nI v.1 ∧ ck j = nI v.2)
theorem zMk.obj {h : zH} {m : Nat} {Q : zB} {pl ct : Nat → Int32} (H : zMk h m Q pl ct) : h m = .inr (4, [.ref (m + 1), .ref (m + 4), .ref (m + 7), .ref (m + 10), .ref (m + 11), .int (nI Q.length), .ref (m + 12), .ref (m + 13)]) := by
  obtain ⟨cb, ck, H, -⟩ := H
  exact H.1
theorem zMk.pl {h : zH} {m : Nat} {Q : zB} {pl ct : Nat → Int32} (H : zMk h m Q pl ct) : h (m + 12) = .inl (0, 10, .inl pl) := by
  obtain ⟨cb, ck, H, -⟩ := H
  exact H.2.2.2.1
theorem zMk.ct {h : zH} {m : Nat} {Q : zB} {pl ct : Nat → Int32} (H : zMk h m Q pl ct) : h (m + 13) = .inl (0, 10, .inl ct) := by
  obtain ⟨cb, ck, H, -⟩ := H
  exact H.2.2.2.2
theorem zMk.off {lo hi m : Nat} {Q : zB} {pl ct : Nat → Int32} {h h' : zH} (H : zMk h m Q pl ct) (ho : ∀ a, a = m ∨ (m + 10 ≤ a ∧ a < m + 14) → h' a = h a) : zMk h' m Q pl ct := by
  obtain ⟨cb, ck, ⟨h1, h2, h3, h4, h5⟩, r⟩ := H
  exact ⟨cb, ck, ⟨(ho _ (by omega)).trans h1, (ho _ (by omega)).trans h2, (ho _ (by omega)).trans h3, (ho _ (by omega)).trans h4, (ho _ (by omega)).trans h5⟩, r⟩
theorem zMk.setP {h : zH} {m : Nat} {Q : zB} {pl ct f : Nat → Int32} (H : zMk h m Q pl ct) : zMk (zupd h (m + 12) (.inl (0, 10, .inl f))) m Q f ct := by
  obtain ⟨cb, ck, ⟨h1, h2, h3, h4, h5⟩, r⟩ := H
  exact ⟨cb, ck, ⟨(zupd_n (by omega)).trans h1, (zupd_n (by omega)).trans h2, (zupd_n (by omega)).trans h3, zupd_s, (zupd_n (by omega)).trans h5⟩, r⟩
theorem zMk.setC {h : zH} {m : Nat} {Q : zB} {pl ct f : Nat → Int32} (H : zMk h m Q pl ct) : zMk (zupd h (m + 13) (.inl (0, 10, .inl f))) m Q pl f := by
  obtain ⟨cb, ck, ⟨h1, h2, h3, h4, h5⟩, r⟩ := H
  exact ⟨cb, ck, ⟨(zupd_n (by omega)).trans h1, (zupd_n (by omega)).trans h2, (zupd_n (by omega)).trans h3, (zupd_n (by omega)).trans h4, zupd_s⟩, r⟩
/-- a state that calls can reach -/
def zwf (σ : zS) : Prop := (∀ (i : Nat) (v : Nat × Nat), (zba σ)[i]? = some v → v.1 = i) ∧ (zba σ).length ≤ zus σ ∧ zus σ ≤ 30 ∧ (∀ d, ((zdr σ d).map Prod.fst).Nodup) ∧ (∀ d, ∀ v ∈ zdr σ d, v.1 < zus σ) ∧ (∀ v ∈ zd0 σ, ∀ w ∈ zd1 σ, v.1 = w.1 → v.1 < (zba σ).length) ∧ zpf σ ≤ 1 ∧ ∀ k, k < 30 → zch σ k = -1 ∨ zch σ k = 0 ∨ zch σ k = 1
/-- the number of the block directly before this one, or -1 -/
def zix : zB → Nat → Option Nat
  | [], _ => none
  | v :: L, x => if v.1 = x then some 0 else (zix L x).map (· + 1)
theorem zix_fd {x : Nat} : ∀ {L : zB} {j : Nat}, zfd L x j → zix L x = some j := by
  intro L
  induction L with
  | nil =>
    intro j h
    obtain ⟨⟨v, h1, -⟩, -⟩ := h
    exact nomatch h1
  | cons u L ih =>
    intro j h
    obtain ⟨⟨v, h1, h2⟩, h3⟩ := h
    cases j with
    | zero =>
      have : u = v := Option.some.inj h1
      show (if u.1 = x then some 0 else (zix L x).map (· + 1)) = some 0
      rw [if_pos (by rw [this]; exact h2)]
    | succ j =>
      show (if u.1 = x then some 0 else (zix L x).map (· + 1)) = some (j + 1)
      rw [if_neg (h3 0 u (Nat.succ_pos j) rfl), ih (j := j) ⟨⟨v, h1, h2⟩, fun i w hi hw => h3 (i + 1) w (Nat.succ_lt_succ hi) hw⟩]
      rfl
theorem zix_no {x : Nat} : ∀ {L : zB}, (∀ v ∈ L, v.1 ≠ x) → zix L x = none := by
  intro L
  induction L with
  | nil => intro _; rfl
  | cons u L ih =>
    intro h
    show (if u.1 = x then some 0 else (zix L x).map (· + 1)) = none
    rw [if_neg (h u (List.mem_cons_self)), ih (fun v hv => h v (List.mem_cons_of_mem _ hv))]
    rfl
def zah (L : zB) (x : Nat) : Int32 := match zix L x with
  | some (j + 1) => nI (znm L j)
  | _ => -1
def zyv (L : zB) (x : Nat) : Nat := (zco L x).getD 0
def zcw (σ : zS) (i k : Nat) : Nat := if zcp σ i k = 0 then 0 else 1
theorem zcw_ok {σ : zS} (W : zwf σ) {i k : Nat} (h : i < 10 ∧ k < 3) : zcp σ i k = nI (zcw σ i k) := by
  obtain ⟨-, -, -, -, -, -, w1, w2⟩ := W
  unfold zcw zcp
  rcases w2 (i * 3 + k) (by omega) with e | e | e
  · rw [if_pos e]
    rcases (by omega : zpf σ = 0 ∨ zpf σ = 1) with e2 | e2
    · rw [e2]; decide
    · rw [e2]; decide
  · rw [e, if_neg (by decide : ¬ ((0 : Int32) = -1))]; decide
  · rw [e, if_neg (by decide : ¬ ((1 : Int32) = -1))]; decide
theorem zcw_le {σ : zS} {i k : Nat} : zcw σ i k < 2 := by
  unfold zcw
  split <;> decide
def zcx (σ : zS) (d i : Nat) : Nat := zchc (zba σ) (zdr σ d) i
def zyx (σ : zS) (d i : Nat) : Nat := zyv (zdr σ d) i
/-- the place of a block of the base: a draft's, 2 free, 3 not merged -/
def zplR (σ : zS) (d i : Nat) : Nat := if zed (zcx σ d i) = true ∧ zcw σ i 1 = d then (if zmv (zcx σ d i) = true then d else 2) else 3
def zplB (σ : zS) (i : Nat) : Nat := if zmv (zcx σ 0 i) = true then (if zmv (zcx σ 1 i) = true then (if zah (zd0 σ) i = zah (zd1 σ) i then 0 else zcw σ i 2) else 0) else if zmv (zcx σ 1 i) = true then 1 else 2
def zplc (σ : zS) (i : Nat) : Nat := if zcx σ 0 i = 4 then (if zcx σ 1 i = 4 then 3 else zplR σ 1 i) else if zcx σ 1 i = 4 then zplR σ 0 i else zplB σ i
def zcnB (σ : zS) (i : Nat) : Nat := if zed (zcx σ 0 i) = true then (if zed (zcx σ 1 i) = true ∧ zyx σ 0 i ≠ zyx σ 1 i then (if zcw σ i 0 = 0 then zyx σ 0 i else zyx σ 1 i) else zyx σ 0 i) else zyx σ 1 i
def zcnt (σ : zS) (i : Nat) : Nat := if zcx σ 0 i = 4 then zyx σ 1 i else if zcx σ 1 i = 4 then zyx σ 0 i else zcnB σ i
def zkn1 (σ : zS) (i : Nat) : zB := if zed (zcx σ 0 i) = true ∧ zed (zcx σ 1 i) = true ∧ zyx σ 0 i ≠ zyx σ 1 i then [(i, 1)] else []
def zkn2 (σ : zS) (d i : Nat) : zB := if zed (zcx σ d i) = true then [(i, 2)] else []
def zkn3 (σ : zS) (i : Nat) : zB := if zmv (zcx σ 0 i) = true ∧ zmv (zcx σ 1 i) = true ∧ zah (zd0 σ) i ≠ zah (zd1 σ) i then [(i, 3)] else []
/-- the conflicts about a block -/
def zknd (σ : zS) (i : Nat) : zB := if zcx σ 0 i = 4 then (if zcx σ 1 i = 4 then [] else zkn2 σ 1 i) else if zcx σ 1 i = 4 then zkn2 σ 0 i else zkn1 σ i ++ zkn3 σ i
theorem zchc_in {B L : zB} {i : Nat} (h : zchc B L i ≠ 4) : ∃ y, zco L i = some y := by
  unfold zchc at h
  cases e : zco L i with
  | none => rw [e] at h; exact absurd rfl h
  | some y => exact ⟨y, rfl⟩
theorem zch_no {B L : zB} {i : Nat} (h : ∀ v ∈ L, v.1 ≠ i) : zchc B L i = 4 := by
  unfold zchc
  rw [zco_none h]
theorem zyv_at {L : zB} {x j : Nat} {w : Nat × Nat} (hf : zfd L x j) (hw : L[j]? = some w) : zyv L x = w.2 := by
  unfold zyv
  rw [zco_some hf hw]
  rfl
def zmc (m d : Nat) : Nat := if d = 0 then m + 4 else m + 7
set_option maxRecDepth 100000 in
theorem S_X4_changesOf {C : zK} (hC : zCld 215 zTT C) {h : zH} {n : Nat} {K : zQ} {m d : Nat} {Q : zB} {pl ct : Nat → Int32} (H : zMk h m Q pl ct) (hd : d < 2) (H1 : K 0 (some (.ref (zmc m d))) h n) : C 48 [.ref m, .int (nI d)] h n K := by
  have h1 := H.obj
  refine zd_X4_changesOf hC rfl fun P hgo hF => ?_
  rcases (by omega : d = 0 ∨ d = 1) with rfl | rfl
  · refine hgo [] 20 _ _ _ _ _ _ _ ?_
    conv => whnf
    refine ⟨fun q => absurd rfl q, fun _ => ?_⟩
    conv => whnf
    repeat (first
      | (refine ⟨_, by assumption, _, rfl, ?_⟩; conv => whnf)
      | (refine ⟨_, _, by assumption, Nat.le_of_ble_eq_true rfl, ?_⟩; conv => whnf)
      | (refine ⟨_, by assumption, Nat.le_of_ble_eq_true rfl, ⟨rfl, rfl⟩, ?_⟩; conv => whnf)
      | (refine ⟨_, by assumption, ?_⟩; conv => whnf))
    exact H1
  · refine hgo [] 20 _ _ _ _ _ _ _ ?_
    conv => whnf
    refine ⟨fun _ => ?_, fun q => absurd q (by decide)⟩
    conv => whnf
    repeat (first
      | (refine ⟨_, by assumption, _, rfl, ?_⟩; conv => whnf)
      | (refine ⟨_, _, by assumption, Nat.le_of_ble_eq_true rfl, ?_⟩; conv => whnf)
      | (refine ⟨_, by assumption, Nat.le_of_ble_eq_true rfl, ⟨rfl, rfl⟩, ?_⟩; conv => whnf)
      | (refine ⟨_, by assumption, ?_⟩; conv => whnf))
    exact H1
set_option maxRecDepth 100000 in
theorem S_X4_addConflict {C : zK} (hC : zCld 215 zTT C) {h : zH} {n : Nat} {K : zQ} {m i k : Nat} {Q : zB} {pl ct : Nat → Int32} (H : zMk h m Q pl ct) (hQ : Q.length < 30) (H1 : ∀ h', zMk h' m (Q ++ [(i, k)]) pl ct → zOm m h h' → K 0 none h' n) : C 59 [.ref m, .int (nI i), .int (nI k)] h n K := by
  obtain ⟨cb, ck, ⟨a1, a2, a3, a4, a5⟩, hl, hq⟩ := id H
  refine zd_X4_addConflict hC rfl fun P hgo hF => ?_
  refine hgo [] 40 _ _ _ _ _ _ _ ?_
  conv => whnf
  repeat (first
    | (refine ⟨_, by assumption, _, rfl, ?_⟩; conv => whnf)
    | (refine ⟨_, _, by assumption, Nat.le_of_ble_eq_true rfl, ?_⟩; conv => whnf)
    | (refine ⟨_, by assumption, Nat.le_of_ble_eq_true rfl, ⟨rfl, rfl⟩, ?_⟩; conv => whnf)
    | (refine ⟨_, by assumption, ?_⟩; conv => whnf))
  refine S_X6_setCell hC a2 (by decide) (fun j' hj' e => ?_) (fun hno => absurd rfl (hno Q.length (by omega)))
  rw [← nI_inj (show Q.length < 2 ^ 31 by omega) (show j' < 2 ^ 31 by omega) e]
  conv => whnf
  have b1 := (zupd_n (h := h) (c := .inl (0, 30, .inl (upd cb Q.length (nI i)))) (show m ≠ m + 10 by omega)).trans a1
  have b2 := zupd_s (h := h) (a := m + 10) (c := .inl (0, 30, .inl (upd cb Q.length (nI i))))
  have b3 := (zupd_n (h := h) (c := .inl (0, 30, .inl (upd cb Q.length (nI i)))) (show m + 11 ≠ m + 10 by omega)).trans a3
  have b4 := (zupd_n (h := h) (c := .inl (0, 30, .inl (upd cb Q.length (nI i)))) (show m + 12 ≠ m + 10 by omega)).trans a4
  have b5 := (zupd_n (h := h) (c := .inl (0, 30, .inl (upd cb Q.length (nI i)))) (show m + 13 ≠ m + 10 by omega)).trans a5
  have o1 : zOm m h (zupd h (m + 10) (.inl (0, 30, .inl (upd cb Q.length (nI i))))) := zOm.up (by omega)
  generalize zupd h (m + 10) (.inl (0, 30, .inl (upd cb Q.length (nI i)))) = h2 at b1 b2 b3 b4 b5 o1 ⊢
  repeat (first
    | (refine ⟨_, by assumption, _, rfl, ?_⟩; conv => whnf)
    | (refine ⟨_, _, by assumption, Nat.le_of_ble_eq_true rfl, ?_⟩; conv => whnf)
    | (refine ⟨_, by assumption, Nat.le_of_ble_eq_true rfl, ⟨rfl, rfl⟩, ?_⟩; conv => whnf)
    | (refine ⟨_, by assumption, ?_⟩; conv => whnf))
  refine S_X6_setCell hC b3 (by decide) (fun j' hj' e => ?_) (fun hno => absurd rfl (hno Q.length (by omega)))
  rw [← nI_inj (show Q.length < 2 ^ 31 by omega) (show j' < 2 ^ 31 by omega) e]
  conv => whnf
  have c1 := (zupd_n (h := h2) (c := .inl (0, 30, .inl (upd ck Q.length (nI k)))) (show m ≠ m + 11 by omega)).trans b1
  have c2 := (zupd_n (h := h2) (c := .inl (0, 30, .inl (upd ck Q.length (nI k)))) (show m + 10 ≠ m + 11 by omega)).trans b2
  have c3 := zupd_s (h := h2) (a := m + 11) (c := .inl (0, 30, .inl (upd ck Q.length (nI k))))
  have c4 := (zupd_n (h := h2) (c := .inl (0, 30, .inl (upd ck Q.length (nI k)))) (show m + 12 ≠ m + 11 by omega)).trans b4
  have c5 := (zupd_n (h := h2) (c := .inl (0, 30, .inl (upd ck Q.length (nI k)))) (show m + 13 ≠ m + 11 by omega)).trans b5
  have o2 : zOm m h2 (zupd h2 (m + 11) (.inl (0, 30, .inl (upd ck Q.length (nI k))))) := zOm.up (by omega)
  generalize zupd h2 (m + 11) (.inl (0, 30, .inl (upd ck Q.length (nI k)))) = h3 at c1 c2 c3 c4 c5 o2 ⊢
  refine ⟨_, c1, _, rfl, ?_⟩
  conv => whnf
  refine ⟨_, c1, Nat.le_of_ble_eq_true rfl, ⟨rfl, rfl⟩, ?_⟩
  conv => whnf
  refine H1 _ ⟨_, _, ⟨?_, (zupd_n (by omega)).trans c2, (zupd_n (by omega)).trans c3, (zupd_n (by omega)).trans c4, (zupd_n (by omega)).trans c5⟩, ?_, ?_⟩ ((o1.tr o2).tr (zOm.up (Or.inl rfl)))
  · rw [List.length_append, show nI (Q.length + [(i, k)].length) = nI Q.length + 1 from (nI_1 _).symm]
    exact zupd_s
  · rw [List.length_append]
    exact hQ
  · intro j v hv
    by_cases c : j = Q.length
    · rw [c, List.getElem?_append_right (Nat.le_refl _), Nat.sub_self] at hv
      have hv' : (i, k) = v := Option.some.inj hv
      rw [c, upd_s, upd_s, ← hv']
      exact ⟨rfl, rfl⟩
    · have hj : j < Q.length := by
        have := (List.getElem?_eq_some_iff.mp hv).1
        rw [List.length_append] at this
        have e1 : [(i, k)].length = 1 := rfl
        omega
      rw [List.getElem?_append_left hj] at hv
      rw [upd_n c, upd_n c]
      exact hq j v hv

