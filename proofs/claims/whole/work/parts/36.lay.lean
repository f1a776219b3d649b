/-! Merge: laying the blocks -/
/-- the place directly behind the nearest block before this one that is merged -/
def zpb (M L : zB) : Nat → Nat
  | 0 => 0
  | p + 1 => match zix M (znm L p) with
    | some j => j + 1
    | none => zpb M L p
theorem zix_lt {x : Nat} : ∀ {L : zB} {j : Nat}, zix L x = some j → j < L.length := by
  intro L
  induction L with
  | nil => intro j h; exact nomatch h
  | cons u L ih =>
    intro j h
    have h' : (if u.1 = x then some 0 else (zix L x).map (· + 1)) = some j := h
    by_cases c : u.1 = x
    · rw [if_pos c] at h'
      cases h'
      exact Nat.succ_pos _
    · rw [if_neg c] at h'
      cases e : zix L x with
      | none => rw [e] at h'; exact nomatch h'
      | some k =>
        rw [e] at h'
        have : k + 1 = j := Option.some.inj h'
        have := ih e
        show j < L.length + 1
        omega
theorem zpb_le {M L : zB} : ∀ p, zpb M L p ≤ M.length := by
  intro p
  induction p with
  | zero => exact Nat.zero_le _
  | succ p ih =>
    show (match zix M (znm L p) with
      | some j => j + 1
      | none => zpb M L p) ≤ M.length
    cases e : zix M (znm L p) with
    | none => exact ih
    | some j => exact zix_lt e
set_option maxRecDepth 100000 in
theorem S_X4_placeBehind {C : zK} (hC : zCld 215 zTT C) {h : zH} {n : Nat} {K : zQ} {m b p : Nat} {M L : zB} {Q : zB} {pl ct : Nat → Int32} (H : zMk h m Q pl ct) (hM : zBl h (m + 1) 30 M) (hL : zBl h b 15 L) (hp : p ≤ L.length) (H1 : K 0 (some (.int (nI (zpb M L p)))) h n) : C 61 [.ref m, .int (nI p), .ref b] h n K := by
  have hobj := H.obj
  obtain ⟨f, g, ⟨r1, -, -⟩, hlen, hN, hval, hw⟩ := hL.raw
  obtain ⟨f2, g2, ⟨r2, -, -⟩, hlen2, hN2, hval2, hw2⟩ := hM.raw
  refine zd_X4_placeBehind hC rfl fun P hgo hF => ?_
  have loop : ∀ q, q ≤ L.length → zpb M L q = zpb M L p → P 4 [some (.ref m), some (.int (nI p)), some (.ref b), some (.int (nI q - 1)), none] [] h n 0 0 := by
    intro q
    induction q with
    | zero =>
      intro hq e9
      refine hgo [4] 40 _ _ _ _ _ _ _ ?_
      conv => whnf
      refine ⟨fun _ => ?_, fun z => absurd (by decide) z⟩
      conv => whnf
      rw [← e9] at H1
      exact H1
    | succ q ih =>
      intro hq e9
      obtain ⟨v, hv⟩ : ∃ v, L[q]? = some v := ⟨L[q], List.getElem?_eq_getElem (by omega)⟩
      have hvb := hw v (List.mem_of_getElem? hv)
      have e8 : (match zix M v.1 with
        | some j => j + 1
        | none => zpb M L q) = zpb M L p := by
        rw [← e9, ← znm_at hv]
        rfl
      rw [show nI (q + 1) - 1 = nI q from nI_pred q]
      refine hgo [4] 40 _ _ _ _ _ _ _ ?_
      conv => whnf
      refine ⟨fun z => absurd z (nI_pos (show q < 2 ^ 31 by omega)), fun _ => ?_⟩
      conv => whnf
      repeat (first
        | (refine ⟨_, by assumption, _, rfl, ?_⟩; conv => whnf)
        | (refine ⟨_, _, by assumption, Nat.le_of_ble_eq_true rfl, ?_⟩; conv => whnf)
        | (refine ⟨_, by assumption, Nat.le_of_ble_eq_true rfl, ⟨rfl, rfl⟩, ?_⟩; conv => whnf)
        | (refine ⟨_, by assumption, ?_⟩; conv => whnf))
      refine S_numAt hC hL hv ?_
      conv => whnf
      repeat (first
        | (refine ⟨_, by assumption, _, rfl, ?_⟩; conv => whnf)
        | (refine ⟨_, _, by assumption, Nat.le_of_ble_eq_true rfl, ?_⟩; conv => whnf)
        | (refine ⟨_, by assumption, Nat.le_of_ble_eq_true rfl, ⟨rfl, rfl⟩, ?_⟩; conv => whnf)
        | (refine ⟨_, by assumption, ?_⟩; conv => whnf))
      refine S_X0_find hC hM (show v.1 < 1000 by omega) (fun j hj => ?_) (fun hno => ?_)
      · rw [zix_fd hj] at e8
        have e7 : j + 1 = zpb M L p := e8
        rw [← e7] at H1
        have hjl := zix_lt (zix_fd hj)
        conv => whnf
        refine ⟨fun z => absurd z (nI_ne_m1 (j := j) (by omega)), fun _ => ?_⟩
        conv => whnf
        rw [show nI j + 1 = nI (j + 1) from nI_1 _]
        exact H1
      · rw [zix_no hno] at e8
        conv => whnf
        refine ⟨fun _ => ?_, fun z => absurd rfl z⟩
        conv => whnf
        have k9 := ih (by omega) e8
        rw [show nI q - 1 = nI q + Int32.ofInt (-1) by rw [show Int32.ofInt (-1) = -1 by decide, Int32.sub_eq_add_neg]] at k9
        refine hF _ _ _ _ _ _ _ _ ?_ k9
        intro i w hi
        match i, hi with
        | 0, hi => exact hi
        | 1, hi => exact hi
        | 2, hi => exact hi
        | 3, hi => exact hi
        | 4, hi => exact nomatch hi
        | i + 5, hi => exact nomatch hi
  refine hgo [4] 40 _ _ _ _ _ _ _ ?_
  conv => whnf
  exact loop p hp rfl
def zpu (σ : zS) (d : Nat) (M : zB) (p : Nat) : zB := match (zdr σ d)[p]? with
  | none => M
  | some v => if (zba σ).length ≤ v.1 then M.insertIdx (zpb M (zdr σ d) p) v else if zplc σ v.1 = d then M.insertIdx (zpb M (zdr σ d) p) (v.1, zcnt σ v.1) else M
def zpus (σ : zS) (d : Nat) : Nat → Nat → zB → zB
  | 0, _, M => M
  | e + 1, p, M => zpus σ d e (p + 1) (zpu σ d M p)
/-- what can be merged before this position of this draft -/
def zIn (σ : zS) (d p x : Nat) : Prop := (x < (zba σ).length ∧ zplc σ x = 2) ∨ (d = 1 ∧ (∃ v ∈ zd0 σ, v.1 = x) ∧ ((zba σ).length ≤ x ∨ zplc σ x = 0)) ∨ ∃ q v, q < p ∧ (zdr σ d)[q]? = some v ∧ v.1 = x ∧ ((zba σ).length ≤ x ∨ zplc σ x = d)
def zMo (σ : zS) (d p : Nat) (M : zB) : Prop := (M.map Prod.fst).Nodup ∧ (∀ v ∈ M, v.1 < 30) ∧ ∀ v ∈ M, zIn σ d p v.1
theorem zpig : ∀ (n : Nat) (l : List Nat), l.Nodup → (∀ x ∈ l, x < n) → l.length ≤ n := by
  intro n
  induction n with
  | zero =>
    intro l _ h
    cases l with
    | nil => exact Nat.le_refl _
    | cons a l => exact absurd (h a (List.mem_cons_self)) (Nat.not_lt_zero _)
  | succ n ih =>
    intro l hn h
    have h1 := ih (l.erase n) (hn.erase n) (fun x hx => by
      have a1 := h x (List.mem_of_mem_erase hx)
      have a2 : x ≠ n := ((List.Nodup.mem_erase_iff hn).mp hx).1
      omega)
    have h2 : l.length ≤ (l.erase n).length + 1 := by
      rw [List.length_erase]
      split <;> omega
    omega
theorem zmem_ins {M : zB} {k : Nat} {u v : Nat × Nat} (hk : k ≤ M.length) : v ∈ M.insertIdx k u ↔ v = u ∨ v ∈ M := List.mem_insertIdx hk
theorem znod_ins {M : zB} {u : Nat × Nat} : ∀ {k : Nat}, k ≤ M.length → (M.map Prod.fst).Nodup → (∀ v ∈ M, v.1 ≠ u.1) → ((M.insertIdx k u).map Prod.fst).Nodup := by
  induction M with
  | nil =>
    intro k hk _ _
    cases k with
    | zero => exact List.nodup_cons.mpr ⟨fun h => (nomatch h), List.nodup_nil⟩
    | succ k => exact absurd hk (Nat.not_succ_le_zero _)
  | cons w M ih =>
    intro k hk hn hu
    cases k with
    | zero =>
      refine List.nodup_cons.mpr ⟨fun h => ?_, hn⟩
      obtain ⟨v, h1, h2⟩ := List.mem_map.mp h
      exact hu v h1 h2
    | succ k =>
      have hn' := List.nodup_cons.mp hn
      refine List.nodup_cons.mpr ⟨fun h => ?_, ih (Nat.le_of_succ_le_succ hk) hn'.2 (fun v hv => hu v (List.mem_cons_of_mem _ hv))⟩
      obtain ⟨v, h1, h2⟩ := List.mem_map.mp h
      rcases (zmem_ins (Nat.le_of_succ_le_succ hk)).mp h1 with h3 | h3
      · rw [h3] at h2
        exact hu w (List.mem_cons_self) h2.symm
      · exact hn'.1 (List.mem_map.mpr ⟨v, h3, h2⟩)
theorem znod_at {L : zB} (hn : (L.map Prod.fst).Nodup) {p q : Nat} {v w : Nat × Nat} (hv : L[p]? = some v) (hw : L[q]? = some w) (e : v.1 = w.1) : p = q := by
  have h1 : (L.map Prod.fst)[p]? = some v.1 := by rw [List.getElem?_map, hv]; rfl
  have h2 : (L.map Prod.fst)[q]? = some v.1 := by rw [List.getElem?_map, hw, e]; rfl
  obtain ⟨l1, e1⟩ := List.getElem?_eq_some_iff.mp h1
  obtain ⟨l2, e2⟩ := List.getElem?_eq_some_iff.mp h2
  exact (List.getElem_inj hn).mp (e1.trans e2.symm)
/-- a block that is laid at this position is not merged yet -/
theorem zMo.new {σ : zS} (W : zwf σ) {d p : Nat} (hd : d < 2) {M : zB} (hM : zMo σ d p M) {v : Nat × Nat} (hv : (zdr σ d)[p]? = some v) (hp : (zba σ).length ≤ v.1 ∨ zplc σ v.1 = d) : ∀ w ∈ M, w.1 ≠ v.1 := by
  intro w hw e
  obtain ⟨w1, w2, w3, w4, w5, w6, -⟩ := W
  rcases hM.2.2 w hw with ⟨a1, a2⟩ | ⟨a1, ⟨u, a2, a3⟩, a4⟩ | ⟨q, u, a1, a2, a3, -⟩
  · rw [e] at a1 a2
    rcases hp with c | c
    · omega
    · omega
  · rw [e] at a3 a4
    rw [a1] at hp hv
    have hv' : v ∈ zd1 σ := List.mem_of_getElem? hv
    have := w6 u a2 v hv' a3
    omega
  · rw [e] at a3
    have := znod_at (w4 d) a2 hv a3
    omega
theorem zIn.mono {σ : zS} {d p x : Nat} (h : zIn σ d p x) : zIn σ d (p + 1) x := by
  rcases h with a | a | ⟨q, v, a1, a2⟩
  · exact Or.inl a
  · exact Or.inr (Or.inl a)
  · exact Or.inr (Or.inr ⟨q, v, by omega, a2⟩)
theorem zMo.put {σ : zS} (W : zwf σ) {d p : Nat} (hd : d < 2) {M : zB} (hM : zMo σ d p M) {v : Nat × Nat} (hv : (zdr σ d)[p]? = some v) (hp : (zba σ).length ≤ v.1 ∨ zplc σ v.1 = d) {k y : Nat} (hk : k ≤ M.length) : zMo σ d (p + 1) (M.insertIdx k (v.1, y)) := by
  have hnew := hM.new W hd hv hp
  obtain ⟨w1, w2, w3, w4, w5, w6, -⟩ := W
  have hvu := w5 d v (List.mem_of_getElem? hv)
  refine ⟨znod_ins hk hM.1 hnew, fun w hw => ?_, fun w hw => ?_⟩
  · rcases (zmem_ins hk).mp hw with h3 | h3
    · rw [h3]; show v.1 < 30; omega
    · exact hM.2.1 w h3
  · rcases (zmem_ins hk).mp hw with h3 | h3
    · rw [h3]; exact Or.inr (Or.inr ⟨p, v, by omega, hv, rfl, hp⟩)
    · exact (hM.2.2 w h3).mono
theorem zMo.room {σ : zS} (W : zwf σ) {d p : Nat} (hd : d < 2) {M : zB} (hM : zMo σ d p M) {v : Nat × Nat} (hv : (zdr σ d)[p]? = some v) (hp : (zba σ).length ≤ v.1 ∨ zplc σ v.1 = d) : M.length < 30 := by
  have h1 := (hM.put W hd hv hp (k := 0) (y := 0) (Nat.zero_le _))
  have h2 := zpig 30 _ h1.1 (fun x hx => by
    obtain ⟨w, b1, b2⟩ := List.mem_map.mp hx
    rw [← b2]
    exact h1.2.1 w b1)
  rw [List.length_map, show M.insertIdx 0 (v.1, 0) = (v.1, 0) :: M from rfl, List.length_cons] at h2
  omega
theorem zMo.step {σ : zS} (W : zwf σ) {d p : Nat} (hd : d < 2) {M : zB} (hM : zMo σ d p M) : zMo σ d (p + 1) (zpu σ d M p) := by
  unfold zpu
  cases hv : (zdr σ d)[p]? with
  | none => exact ⟨hM.1, hM.2.1, fun w hw => (hM.2.2 w hw).mono⟩
  | some v =>
    show zMo σ d (p + 1) (if (zba σ).length ≤ v.1 then M.insertIdx (zpb M (zdr σ d) p) v else if zplc σ v.1 = d then M.insertIdx (zpb M (zdr σ d) p) (v.1, zcnt σ v.1) else M)
    by_cases c1 : (zba σ).length ≤ v.1
    · rw [if_pos c1]
      exact hM.put W hd hv (Or.inl c1) (zpb_le p)
    · rw [if_neg c1]
      by_cases c2 : zplc σ v.1 = d
      · rw [if_pos c2]
        exact hM.put W hd hv (Or.inr c2) (zpb_le p)
      · rw [if_neg c2]
        exact ⟨hM.1, hM.2.1, fun w hw => (hM.2.2 w hw).mono⟩
theorem zMo.steps {σ : zS} (W : zwf σ) {d : Nat} (hd : d < 2) : ∀ {e p : Nat} {M : zB}, zMo σ d p M → zMo σ d (p + e) (zpus σ d e p M) := by
  intro e
  induction e with
  | zero => intro p M h; exact h
  | succ e ih =>
    intro p M h
    have := ih (h.step W hd)
    rw [show p + 1 + e = p + (e + 1) by omega] at this
    exact this
theorem zMo.next {σ : zS} {M : zB} {p : Nat} (h : zMo σ 0 p M) : zMo σ 1 0 M := by
  refine ⟨h.1, h.2.1, fun w hw => ?_⟩
  rcases h.2.2 w hw with a | ⟨a, -⟩ | ⟨q, v, -, a2, a3, a4⟩
  · exact Or.inl a
  · exact absurd a (by decide)
  · exact Or.inr (Or.inl ⟨rfl, ⟨v, List.mem_of_getElem? a2, a3⟩, a4⟩)

