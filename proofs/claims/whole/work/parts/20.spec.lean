/-! what the methods do, in numbers and lists; rows of numbers -/
abbrev zB : Type := List (Nat × Nat)
/-- a sequence of blocks lies at b: its numbers at b + 1, its contents at b + 2, room for N -/
def zBl (h : zH) (b N : Nat) (L : zB) : Prop := ∃ f g : Nat → Int32, h b = .inr (0, [.ref (b + 1), .ref (b + 2), .int (nI L.length)]) ∧ h (b + 1) = .inl (0, N, .inl f) ∧ h (b + 2) = .inl (0, N, .inl g) ∧ L.length ≤ N ∧ N ≤ 1000 ∧ (∀ j v, L[j]? = some v → f j = nI v.1 ∧ g j = nI v.2) ∧ ∀ v ∈ L, v.1 < 1000 ∧ v.2 < 1000
/-- nothing has changed but from lo on, below hi -/
def zOff (lo hi : Nat) (h h' : zH) : Prop := ∀ a, (a < lo ∨ hi ≤ a) → h' a = h a
theorem zOff.rf {lo hi : Nat} {h : zH} : zOff lo hi h h := fun _ _ => rfl
theorem zOff.tr {lo hi : Nat} {h h1 h2 : zH} (a : zOff lo hi h h1) (b : zOff lo hi h1 h2) : zOff lo hi h h2 := fun q hq => (b q hq).trans (a q hq)
theorem zOff.wd {lo hi lo' hi' : Nat} {h h9 : zH} (a : zOff lo hi h h9) (h1 : lo' ≤ lo) (h2 : hi ≤ hi') : zOff lo' hi' h h9 := fun q hq => a q (hq.elim (fun z => Or.inl (by omega)) (fun z => Or.inr (by omega)))
theorem zOff.up {lo hi a : Nat} {h : zH} {c : zC} (h1 : lo ≤ a) (h2 : a < hi) : zOff lo hi h (zupd h a c) := fun q hq => by
  unfold zupd
  rw [if_neg (by omega)]
theorem zBl.off {lo hi b N : Nat} {L : zB} {h h' : zH} (hB : zBl h b N L) (ho : zOff lo hi h h') (hd : b + 3 ≤ lo ∨ hi ≤ b) : zBl h' b N L := by
  obtain ⟨f, g, h1, h2, h3, r⟩ := hB
  exact ⟨f, g, by rw [ho _ (by omega)]; exact h1, by rw [ho _ (by omega)]; exact h2, by rw [ho _ (by omega)]; exact h3, r⟩
theorem zupd_s {h : zH} {a : Nat} {c : zC} : zupd h a c a = c := by simp [zupd]
theorem zupd_n {h : zH} {a b : Nat} {c : zC} (e : b ≠ a) : zupd h a c b = h b := by simp [zupd, e]
theorem nI_ne_m1 {j : Nat} (h : j < 2 ^ 31) : nI j ≠ -1 := fun e => by
  have h1 := nI_toInt h
  rw [e] at h1
  have h2 : (-1 : Int32).toInt = -1 := by decide
  omega
theorem nI_inj {a b : Nat} (ha : a < 2 ^ 31) (hb : b < 2 ^ 31) (h : nI a = nI b) : a = b := (nI_eq ha hb).mp h
theorem zinc {j : Nat} : nI j + Int32.ofInt 1 = nI (j + 1) := by
  rw [show Int32.ofInt 1 = 1 by decide]
  exact nI_1 j
theorem zdec {j : Nat} : nI (j + 1) + Int32.ofInt (-1) = nI j := by
  rw [show Int32.ofInt (-1) = -1 by decide]
  exact pk_m1 j
/-- the cells of a sequence, whatever they hold -/
def zRaw (h : zH) (b N : Nat) (c : Int32) (f g : Nat → Int32) : Prop := h b = .inr (0, [.ref (b + 1), .ref (b + 2), .int c]) ∧ h (b + 1) = .inl (0, N, .inl f) ∧ h (b + 2) = .inl (0, N, .inl g)
theorem zRaw.s1 {h : zH} {b N : Nat} {c : Int32} {f g f' : Nat → Int32} (r : zRaw h b N c f g) : zRaw (zupd h (b + 1) (.inl (0, N, .inl f'))) b N c f' g := ⟨(zupd_n (by omega)).trans r.1, zupd_s, (zupd_n (by omega)).trans r.2.2⟩
theorem zRaw.s2 {h : zH} {b N : Nat} {c : Int32} {f g g' : Nat → Int32} (r : zRaw h b N c f g) : zRaw (zupd h (b + 2) (.inl (0, N, .inl g'))) b N c f g' := ⟨(zupd_n (by omega)).trans r.1, (zupd_n (by omega)).trans r.2.1, zupd_s⟩
theorem zRaw.sc {h : zH} {b N : Nat} {c c' : Int32} {f g : Nat → Int32} (r : zRaw h b N c f g) : zRaw (zupd h b (.inr (0, [.ref (b + 1), .ref (b + 2), .int c']))) b N c' f g := ⟨zupd_s, (zupd_n (by omega)).trans r.2.1, (zupd_n (by omega)).trans r.2.2⟩
theorem zRaw.off {lo hi b N : Nat} {c : Int32} {f g : Nat → Int32} {h h' : zH} (r : zRaw h b N c f g) (ho : zOff lo hi h h') (hd : b + 3 ≤ lo ∨ hi ≤ b) : zRaw h' b N c f g := ⟨(ho _ (by omega)).trans r.1, (ho _ (by omega)).trans r.2.1, (ho _ (by omega)).trans r.2.2⟩
theorem zBl.raw {h : zH} {b N : Nat} {L : zB} (hB : zBl h b N L) : ∃ f g, zRaw h b N (nI L.length) f g ∧ L.length ≤ N ∧ N ≤ 1000 ∧ (∀ j v, L[j]? = some v → f j = nI v.1 ∧ g j = nI v.2) ∧ ∀ v ∈ L, v.1 < 1000 ∧ v.2 < 1000 := by
  obtain ⟨f, g, h1, h2, h3, r⟩ := hB
  exact ⟨f, g, ⟨h1, h2, h3⟩, r⟩
theorem zBl.of {h : zH} {b N : Nat} {L : zB} {f g : Nat → Int32} {c : Int32} (r : zRaw h b N c f g) (e : c = nI L.length) (h1 : L.length ≤ N) (h2 : N ≤ 1000) (h3 : ∀ j v, L[j]? = some v → f j = nI v.1 ∧ g j = nI v.2) (h4 : ∀ v ∈ L, v.1 < 1000 ∧ v.2 < 1000) : zBl h b N L := ⟨f, g, by rw [← e]; exact r.1, r.2.1, r.2.2, h1, h2, h3, h4⟩
theorem upd_s {f : Nat → Int32} {k : Nat} {x : Int32} : upd f k x k = x := pk_us
theorem upd_n {f : Nat → Int32} {k j : Nat} {x : Int32} (h : j ≠ k) : upd f k x j = f j := pk_un h
/-- the place of a number -/
def zfd (L : zB) (x j : Nat) : Prop := (∃ v, L[j]? = some v ∧ v.1 = x) ∧ ∀ i v, i < j → L[i]? = some v → v.1 ≠ x

