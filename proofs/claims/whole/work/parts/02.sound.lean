/-! WHAT THE ABSTRACT MACHINE SAYS OF THE REAL ONE -/
def zv (ad : Nat → Nat) : Value → Value
  | .ref a => .ref (ad a)
  | v => v
def zarr (ad : Nat → Nat) : vp_A → vp_A
  | (k, .inr (.inr (.inr (.inr f)))) => (k, .inr (.inr (.inr (.inr fun j => (f j).map ad))))
  | a => a
def zcell (ad : Nat → Nat) (dA : Nat → ClassId) : zC → va_E
  | .inl (t, a) => .inl (dA t, zarr ad a)
  | .inr (ci, fs) => .inr (ci, fs.map (zv ad))
def zW (dA : Nat → ClassId) (ad : Nat → Nat) (h : zH) (n : Nat) : va_W := (List.range n).map fun i => (ad i, zcell ad dA (h i))
def zlv (ad : Nat → Nat) : Nat → zL → List (Nat × Value)
  | _, [] => []
  | i, some v :: l => (i, zv ad v) :: zlv ad (i + 1) l
  | i, none :: l => zlv ad (i + 1) l
-- references are cells
def zwv (n : Nat) (v : Value) : Prop := ∀ a, v = .ref a → a < n
def zwa (n : Nat) : vp_A → Prop
  | (_, .inr (.inr (.inr (.inr f)))) => ∀ j a, f j = some a → a < n
  | _ => True
def zwc (n : Nat) : zC → Prop
  | .inl (_, a) => zwa n a
  | .inr (_, fs) => ∀ v ∈ fs, zwv n v
def zwh (n : Nat) (h : zH) : Prop := ∀ i, i < n → zwc n (h i)
def zwl (n : Nat) (ls : zL) : Prop := ∀ i v, zget ls i = some v → zwv n v
def zws (n : Nat) (st : List Value) : Prop := ∀ v ∈ st, zwv n v
theorem zwv_int {n : Nat} {x : Int32} : zwv n (.int x) := fun _ h => nomatch h
theorem zwv_long {n : Nat} {x : Int64} : zwv n (.long x) := fun _ h => nomatch h
theorem zwv_double {n : Nat} {x : UInt64} : zwv n (.double x) := fun _ h => nomatch h
theorem zwv_null {n : Nat} : zwv n .null := fun _ h => nomatch h
theorem zwv_ref {n a : Nat} (h : a < n) : zwv n (.ref a) := fun b hb => by cases hb; exact h
theorem zws_cons {n : Nat} {v : Value} {st : List Value} (h : zwv n v) (k : zws n st) : zws n (v :: st) := fun w hw => (List.mem_cons.mp hw).elim (fun e => by rw [e]; exact h) (k w)
theorem zws_tl {n : Nat} {v : Value} {st : List Value} (h : zws n (v :: st)) : zws n st := fun w hw => h w (List.mem_cons_of_mem _ hw)
theorem zws_hd {n : Nat} {v : Value} {st : List Value} (h : zws n (v :: st)) : zwv n v := h v List.mem_cons_self
theorem zws_ref {n a : Nat} {st : List Value} (h : zws n (.ref a :: st)) : a < n := zws_hd h a rfl
theorem zws_nil {n : Nat} : zws n [] := fun _ h => nomatch h
theorem zwv_up {n n' : Nat} {v : Value} (h : zwv n v) (k : n ≤ n') : zwv n' v := fun a e => Nat.lt_of_lt_of_le (h a e) k
theorem zws_up {n n' : Nat} {st : List Value} (h : zws n st) (k : n ≤ n') : zws n' st := fun v hv => zwv_up (h v hv) k
theorem zwl_up {n n' : Nat} {ls : zL} (h : zwl n ls) (k : n ≤ n') : zwl n' ls := fun i v e => zwv_up (h i v e) k
theorem zwa_up {n n' : Nat} {a : vp_A} (h : zwa n a) (k : n ≤ n') : zwa n' a := by
  obtain ⟨z, f | f | f | f | f⟩ := a
  · exact trivial
  · exact trivial
  · exact trivial
  · exact trivial
  · exact fun j b e => Nat.lt_of_lt_of_le (h j b e) k
theorem zwc_up {n n' : Nat} {c : zC} (h : zwc n c) (k : n ≤ n') : zwc n' c := by
  obtain ⟨t, a⟩ | ⟨ci, fs⟩ := c
  · exact zwa_up h k
  · exact fun v hv => zwv_up (h v hv) k
theorem zwh_set {n a : Nat} {h : zH} {c : zC} (hw : zwh n h) (hc : zwc n c) : zwh n (zupd h a c) := fun i hi => by
  unfold zupd
  by_cases e : i = a
  · rw [if_pos e]; exact hc
  · rw [if_neg e]; exact hw i hi
theorem zwh_new {n : Nat} {h : zH} {c : zC} (hw : zwh n h) (hc : zwc n c) : zwh (n + 1) (zupd h n c) := fun i hi => by
  unfold zupd
  by_cases e : i = n
  · rw [if_pos e]; exact zwc_up hc (Nat.le_succ n)
  · rw [if_neg e]; exact zwc_up (hw i (by omega)) (Nat.le_succ n)
-- the same addresses, the same values
theorem zv_agree {ad ad' : Nat → Nat} {n : Nat} (ha : ∀ i, i < n → ad' i = ad i) {v : Value} (h : zwv n v) : zv ad' v = zv ad v := by
  cases v <;> first | rfl | exact congrArg Value.ref (ha _ (h _ rfl))
theorem zvs_agree {ad ad' : Nat → Nat} {n : Nat} (ha : ∀ i, i < n → ad' i = ad i) {st : List Value} (h : zws n st) : st.map (zv ad') = st.map (zv ad) := List.map_congr_left fun v hv => zv_agree ha (h v hv)
theorem zarr_agree {ad ad' : Nat → Nat} {n : Nat} (ha : ∀ i, i < n → ad' i = ad i) {a : vp_A} (h : zwa n a) : zarr ad' a = zarr ad a := by
  obtain ⟨z, f | f | f | f | f⟩ := a
  · rfl
  · rfl
  · rfl
  · rfl
  · have : (fun j => (f j).map ad') = fun j => (f j).map ad := by
      funext j
      cases hj : f j with
      | none => rfl
      | some b => exact congrArg some (ha b (h j b hj))
    show (z, _) = (z, _)
    rw [this]
theorem zcell_agree {ad ad' : Nat → Nat} {dA : Nat → ClassId} {n : Nat} (ha : ∀ i, i < n → ad' i = ad i) {c : zC} (h : zwc n c) : zcell ad' dA c = zcell ad dA c := by
  obtain ⟨t, a⟩ | ⟨ci, fs⟩ := c
  · show Sum.inl _ = Sum.inl _
    rw [zarr_agree ha h]
  · show Sum.inr _ = Sum.inr _
    rw [zvs_agree ha h]
theorem zW_agree {ad ad' : Nat → Nat} {dA : Nat → ClassId} {h : zH} {n : Nat} (ha : ∀ i, i < n → ad' i = ad i) (hw : zwh n h) : zW dA ad' h n = zW dA ad h n := List.map_congr_left fun i hi => by
  have hl := List.mem_range.mp hi
  rw [ha i hl, zcell_agree ha (hw i hl)]
theorem zlv_mem {ad : Nat → Nat} {ls : zL} : ∀ (k : Nat) (q : Nat × Value), q ∈ zlv ad k ls ↔ ∃ i v, zget ls i = some v ∧ q = (k + i, zv ad v) := by
  induction ls with
  | nil => intro k q; simp [zlv, zget]
  | cons a ls ih =>
    intro k q
    cases a with
    | none =>
      simp only [zlv, ih]
      constructor
      · rintro ⟨i, v, h, rfl⟩
        exact ⟨i + 1, v, h, by rw [Nat.add_assoc, Nat.add_comm 1 i]⟩
      · rintro ⟨i, v, h, rfl⟩
        cases i with
        | zero => exact nomatch h
        | succ i => exact ⟨i, v, h, by rw [Nat.add_assoc, Nat.add_comm 1 i]⟩
    | some w =>
      simp only [zlv, List.mem_cons, ih]
      constructor
      · rintro (rfl | ⟨i, v, h, rfl⟩)
        · exact ⟨0, w, rfl, rfl⟩
        · exact ⟨i + 1, v, h, by rw [Nat.add_assoc, Nat.add_comm 1 i]⟩
      · rintro ⟨i, v, h, rfl⟩
        cases i with
        | zero => cases h; exact Or.inl rfl
        | succ i => exact Or.inr ⟨i, v, h, by rw [Nat.add_assoc, Nat.add_comm 1 i]⟩
theorem zlv_agree {ad ad' : Nat → Nat} {n : Nat} (ha : ∀ i, i < n → ad' i = ad i) {ls : zL} (h : zwl n ls) {lsA : Array Slot} {nL : Nat} (hl : lv_has lsA nL (zlv ad 0 ls)) : lv_has lsA nL (zlv ad' 0 ls) := by
  refine ⟨hl.1, hl.2.1, fun q hq => ?_⟩
  obtain ⟨i, v, h1, rfl⟩ := (zlv_mem 0 q).mp hq
  rw [zv_agree ha (h i v h1)]
  exact hl.2.2 _ ((zlv_mem 0 _).mpr ⟨i, v, h1, rfl⟩)
theorem zl_at {ad : Nat → Nat} {ls : zL} {lsA : Array Slot} {nL i : Nat} {v : Value} (hl : lv_has lsA nL (zlv ad 0 ls)) (h : zget ls i = some v) : lsA[i]? = some (.val (zv ad v)) := by
  have := hl.2.2 (0 + i, zv ad v) ((zlv_mem 0 _).mpr ⟨i, v, h, rfl⟩)
  rwa [Nat.zero_add] at this
theorem zl_sub {ad : Nat → Nat} {ls ls' : zL} {lsA : Array Slot} {nL : Nat} (hl : lv_has lsA nL (zlv ad 0 ls)) (h : ∀ i v, zget ls' i = some v → zget ls i = some v) : lv_has lsA nL (zlv ad 0 ls') := by
  refine ⟨hl.1, hl.2.1, fun q hq => ?_⟩
  obtain ⟨i, v, h1, rfl⟩ := (zlv_mem 0 q).mp hq
  exact hl.2.2 _ ((zlv_mem 0 _).mpr ⟨i, v, h i v h1, rfl⟩)
theorem zget_set {ls : zL} {i j : Nat} {v w : Value} (h : zget (zset ls i v) j = some w) : (j = i ∧ w = v) ∨ (j ≠ i ∧ zget ls j = some w) := by
  induction ls generalizing i j with
  | nil => exact nomatch h
  | cons a ls ih =>
    cases i with
    | zero =>
      cases j with
      | zero => cases h; exact Or.inl ⟨rfl, rfl⟩
      | succ j => exact Or.inr ⟨Nat.succ_ne_zero j, h⟩
    | succ i =>
      cases j with
      | zero => exact Or.inr ⟨(Nat.succ_ne_zero i).symm, h⟩
      | succ j =>
        rcases ih (i := i) (j := j) h with ⟨e, e2⟩ | ⟨e, e2⟩
        · exact Or.inl ⟨by rw [e], e2⟩
        · exact Or.inr ⟨fun z => e (Nat.succ.inj z), e2⟩
theorem zget_clr {ls : zL} {i j : Nat} {w : Value} (h : zget (zclr ls i) j = some w) : j ≠ i ∧ zget ls j = some w := by
  induction ls generalizing i j with
  | nil => exact nomatch h
  | cons a ls ih =>
    cases i with
    | zero =>
      cases j with
      | zero => exact nomatch h
      | succ j => exact ⟨Nat.succ_ne_zero j, h⟩
    | succ i =>
      cases j with
      | zero => exact ⟨(Nat.succ_ne_zero i).symm, h⟩
      | succ j =>
        obtain ⟨e, e2⟩ := ih (i := i) (j := j) h
        exact ⟨fun z => e (Nat.succ.inj z), e2⟩
theorem zget_clrs {is : List Nat} : ∀ {ls : zL} {j : Nat} {w : Value}, zget (zclrs ls is) j = some w → zget ls j = some w := by
  induction is with
  | nil => intro ls j w h; exact h
  | cons i is ih => intro ls j w h; exact (zget_clr (ih (ls := zclr ls i) h)).2
theorem zok_at {ls : zL} {i j : Nat} {w : Value} (h : zok ls i = true) (hj : zget ls j = some w) (hc : w.category = 2) : ¬ j + 1 = i := by
  intro e
  subst e
  unfold zok at h
  simp only [hj] at h
  cases w <;> simp_all [Value.category]
theorem zcat (ad : Nat → Nat) (v : Value) : (zv ad v).category = v.category := by cases v <;> rfl
/-- a store of one word: what is left of the list that the kit's row names -/
theorem zl_store1 {ad : Nat → Nat} {ls : zL} {lsA : Array Slot} {nL i : Nat} {v : Value} (hk : zok ls i = true) (hl : lv_has lsA nL ((i, zv ad v) :: (zlv ad 0 ls).filter (fun q => !(q.1 == i) && !(q.1 + 1 == i && q.2.category == 2)))) : lv_has lsA nL (zlv ad 0 (zset ls i v)) := by
  refine ⟨hl.1, hl.2.1, fun q hq => ?_⟩
  obtain ⟨j, w, h1, rfl⟩ := (zlv_mem 0 q).mp hq
  rw [Nat.zero_add]
  rcases zget_set h1 with ⟨rfl, rfl⟩ | ⟨hne, h2⟩
  · exact hl.2.2 _ List.mem_cons_self
  · refine hl.2.2 _ (List.mem_cons_of_mem _ (List.mem_filter.mpr ⟨(zlv_mem 0 _).mpr ⟨j, w, h2, by rw [Nat.zero_add]⟩, ?_⟩))
    by_cases hc : w.category = 2
    · have h3 := zok_at hk h2 hc
      simp [hne, h3]
    · simp [hne, zcat, hc]
theorem zl_store2 {ad : Nat → Nat} {ls : zL} {lsA : Array Slot} {nL i : Nat} {v : Value} (hk : zok ls i = true) (hl : lv_has lsA nL ((i, zv ad v) :: (zlv ad 0 ls).filter (fun q => !(q.1 == i) && (!(q.1 == i + 1) && !(q.1 + 1 == i && q.2.category == 2))))) : lv_has lsA nL (zlv ad 0 (zclr (zset ls i v) (i + 1))) := by
  refine ⟨hl.1, hl.2.1, fun q hq => ?_⟩
  obtain ⟨j, w, h1, rfl⟩ := (zlv_mem 0 q).mp hq
  rw [Nat.zero_add]
  obtain ⟨hn1, h1⟩ := zget_clr h1
  rcases zget_set h1 with ⟨rfl, rfl⟩ | ⟨hne, h2⟩
  · exact hl.2.2 _ List.mem_cons_self
  · refine hl.2.2 _ (List.mem_cons_of_mem _ (List.mem_filter.mpr ⟨(zlv_mem 0 _).mpr ⟨j, w, h2, by rw [Nat.zero_add]⟩, ?_⟩))
    by_cases hc : w.category = 2
    · have h3 := zok_at hk h2 hc
      simp [hne, hn1, h3]
    · simp [hne, hn1, zcat, hc]
theorem zwl_set {n : Nat} {ls : zL} {i : Nat} {v : Value} (h : zwl n ls) (hv : zwv n v) : zwl n (zset ls i v) := fun j w e => by
  rcases zget_set e with ⟨-, rfl⟩ | ⟨-, h2⟩
  · exact hv
  · exact h j w h2
theorem zwl_clr {n : Nat} {ls : zL} {i : Nat} (h : zwl n ls) : zwl n (zclr ls i) := fun j w e => h j w (zget_clr e).2
-- the world
theorem zW_get {dA : Nat → ClassId} {ad : Nat → Nat} {h : zH} {n a : Nat} (ha : a < n) : (zW dA ad h n)[a]? = some (ad a, zcell ad dA (h a)) := by
  unfold zW
  rw [List.getElem?_map, List.getElem?_range ha]
  rfl
theorem zW_len {dA : Nat → ClassId} {ad : Nat → Nat} {h : zH} {n : Nat} : (zW dA ad h n).length = n := by simp [zW]
theorem zW_set {dA : Nat → ClassId} {ad : Nat → Nat} {h : zH} {n a : Nat} {c : zC} : (zW dA ad h n).set a (ad a, zcell ad dA c) = zW dA ad (zupd h a c) n := by
  refine List.ext_getElem? fun i => ?_
  by_cases hi : i < n
  · by_cases e : i = a
    · subst e
      rw [List.getElem?_set_self (by rw [zW_len]; exact hi), zW_get hi]
      simp [zupd]
    · rw [List.getElem?_set_ne (Ne.symm e), zW_get hi, zW_get hi]
      simp [zupd, e]
  · rw [List.getElem?_eq_none (by simp [zW_len]; omega), List.getElem?_eq_none (by simp [zW_len]; omega)]
def zadd (ad : Nat → Nat) (n q : Nat) : Nat → Nat := fun i => if i = n then q else ad i
theorem zadd_lt {ad : Nat → Nat} {n q : Nat} : ∀ i, i < n → zadd ad n q i = ad i := fun i hi => by simp [zadd, Nat.ne_of_lt hi]
theorem zadd_n {ad : Nat → Nat} {n q : Nat} : zadd ad n q n = q := by simp [zadd]
theorem zW_new {dA : Nat → ClassId} {ad : Nat → Nat} {h : zH} {n q : Nat} {c : zC} (hw : zwh n h) (hc : zwc n c) : zW dA ad h n ++ [(q, zcell ad dA c)] = zW dA (zadd ad n q) (zupd h n c) (n + 1) := by
  have e1 : zW dA (zadd ad n q) (zupd h n c) (n + 1) = zW dA (zadd ad n q) (zupd h n c) n ++ [(zadd ad n q n, zcell (zadd ad n q) dA (zupd h n c n))] := by simp [zW, List.range_succ]
  rw [e1, zadd_n, show zupd h n c n = c by simp [zupd], zcell_agree zadd_lt hc]
  congr 1
  refine List.map_congr_left fun i hi => ?_
  have hl := List.mem_range.mp hi
  rw [zadd_lt i hl, show zupd h n c i = h i by simp [zupd, Nat.ne_of_lt hl], zcell_agree zadd_lt (hw i hl)]
theorem zsm_ok : ∀ (s : List Value) (k : Nat), zsm s k = true → (s.map fun v => v.category).sum ≤ k := by
  intro s
  induction s with
  | nil => intro k _; exact Nat.zero_le k
  | cons v s ih =>
    intro k h
    rw [List.map_cons, List.sum_cons]
    cases v with
    | long x =>
      match k, h with
      | k' + 2, h => have := ih k' h; show 2 + _ ≤ _; omega
    | double x =>
      match k, h with
      | k' + 2, h => have := ih k' h; show 2 + _ ≤ _; omega
    | int x =>
      match k, h with
      | k' + 1, h => have := ih k' h; show 1 + _ ≤ _; omega
    | float x =>
      match k, h with
      | k' + 1, h => have := ih k' h; show 1 + _ ≤ _; omega
    | null =>
      match k, h with
      | k' + 1, h => have := ih k' h; show 1 + _ ≤ _; omega
    | ref x =>
      match k, h with
      | k' + 1, h => have := ih k' h; show 1 + _ ≤ _; omega
    | retAddr x =>
      match k, h with
      | k' + 1, h => have := ih k' h; show 1 + _ ≤ _; omega
theorem zsm_map {ad : Nat → Nat} {s : List Value} : ((s.map (zv ad)).map fun v => v.category) = s.map fun v => v.category := by
  rw [List.map_map]
  exact List.map_congr_left fun v _ => zcat ad v
theorem zpop_spec : ∀ (k : Nat) (acc st as s : List Value), zpop k acc st = some (as, s) → as.reverse ++ s = acc.reverse ++ st ∧ as.length = k + acc.length := by
  intro k
  induction k with
  | zero => intro acc st as s h; cases h; exact ⟨rfl, (Nat.zero_add _).symm⟩
  | succ k ih =>
    intro acc st as s h
    cases st with
    | nil => exact nomatch h
    | cons v st =>
      obtain ⟨h1, h2⟩ := ih (v :: acc) st as s h
      refine ⟨by rw [h1]; simp, by rw [h2]; simp; omega⟩
theorem zfit_ok {lim : Nat × Nat} {cu su : Nat} (h : zfit lim cu su = true) : cu ≤ lim.1 ∧ su ≤ lim.2 := by
  simp only [zfit, Bool.and_eq_true] at h
  exact ⟨Nat.le_of_ble_eq_true h.1, Nat.le_of_ble_eq_true h.2⟩
