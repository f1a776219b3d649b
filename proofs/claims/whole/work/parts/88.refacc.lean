/-! The reference: accept -/
theorem zpgF_l {f : Nat → Int32} {d k w : Nat} {x y : Int32} : zpgF f d k k x y w = if w = 12 + 31 * d then f w + 1 else if w = 13 + 31 * d + k then x else if w = 28 + 31 * d + k then y else f w := by
  unfold zpgF zpg
  rw [if_neg (show ¬ (13 + 31 * d + k < w ∧ w ≤ 13 + 31 * d + k) by omega), if_neg (show ¬ (28 + 31 * d + k < w ∧ w ≤ 28 + 31 * d + k) by omega)]
/-- the row while the merged text becomes the base -/
def zAc (f : Nat → Int32) (M : zB) (pf ac d k : Nat) : Prop := f 0 = nI M.length ∧ f 1 = nI M.length ∧ f 104 = nI pf ∧ f 105 = nI ac ∧ (∀ j v, M[j]? = some v → (j < k ∨ 0 < d) → f (2 + j) = nI v.2) ∧ (∀ d', d' < d → f (12 + 31 * d') = nI M.length ∧ ∀ j v, M[j]? = some v → f (13 + 31 * d' + j) = nI j ∧ f (28 + 31 * d' + j) = nI v.2) ∧ f (12 + 31 * d) = nI k ∧ ∀ j v, M[j]? = some v → j < k → f (13 + 31 * d + j) = nI j ∧ f (28 + 31 * d + j) = nI v.2
theorem zAc.base {f : Nat → Int32} {M : zB} {pf ac d k : Nat} {v : Nat × Nat} (H : zAc f M pf ac d k) (hv : M[k]? = some v) (hM : M.length ≤ 10) (hd : d < 2) : zAc (upd f (2 + k) (nI v.2)) M pf ac d k := by
  have hk := (List.getElem?_eq_some_iff.mp hv).1
  obtain ⟨a1, a2, a3, a4, a5, a6, a7, a8⟩ := H
  refine ⟨(upd_n (by omega)).trans a1, (upd_n (by omega)).trans a2, (upd_n (by omega)).trans a3, (upd_n (by omega)).trans a4, fun j w hw hj => ?_, fun d' hd' => ⟨(upd_n (by omega)).trans (a6 d' hd').1, fun j w hw => ?_⟩, (upd_n (by omega)).trans a7, fun j w hw hj => ?_⟩
  · by_cases e : j = k
    · rw [e, upd_s]
      rw [e, hv] at hw
      have e7 : v = w := Option.some.inj hw
      rw [e7]
    · rw [upd_n (by omega)]
      exact a5 j w hw hj
  · have hj := (List.getElem?_eq_some_iff.mp hw).1
    exact ⟨(upd_n (by omega)).trans ((a6 d' hd').2 j w hw).1, (upd_n (by omega)).trans ((a6 d' hd').2 j w hw).2⟩
  · exact ⟨(upd_n (by omega)).trans (a8 j w hw hj).1, (upd_n (by omega)).trans (a8 j w hw hj).2⟩
theorem zAc.next {f f' : Nat → Int32} {M : zB} {pf ac d k : Nat} {v : Nat × Nat} (H : zAc f M pf ac d k) (hv : M[k]? = some v) (hM : M.length ≤ 10) (hd : d < 2) (hb : f (2 + k) = nI v.2) (hf : ∀ w, f' w = zpgF f d k k (nI k) (nI v.2) w) : zAc f' M pf ac d (k + 1) := by
  have hk := (List.getElem?_eq_some_iff.mp hv).1
  obtain ⟨a1, a2, a3, a4, a5, a6, a7, a8⟩ := H
  have o : ∀ w, w ≠ 12 + 31 * d → w ≠ 13 + 31 * d + k → w ≠ 28 + 31 * d + k → f' w = f w := fun w z1 z2 z3 => by
    rw [hf, zpgF_l, if_neg z1, if_neg z2, if_neg z3]
  have o1 : f' (12 + 31 * d) = f (12 + 31 * d) + 1 := by rw [hf, zpgF_l, if_pos rfl]
  have o2 : f' (13 + 31 * d + k) = nI k := by rw [hf, zpgF_l, if_neg (by omega), if_pos rfl]
  have o3 : f' (28 + 31 * d + k) = nI v.2 := by rw [hf, zpgF_l, if_neg (by omega), if_neg (by omega), if_pos rfl]
  refine ⟨(o _ (by omega) (by omega) (by omega)).trans a1, (o _ (by omega) (by omega) (by omega)).trans a2, (o _ (by omega) (by omega) (by omega)).trans a3, (o _ (by omega) (by omega) (by omega)).trans a4, fun j w hw hj => ?_, fun d' hd' => ⟨(o _ (by omega) (by omega) (by omega)).trans (a6 d' hd').1, fun j w hw => ?_⟩, by rw [o1, a7, nI_1], fun j w hw hj => ?_⟩
  · have hj2 := (List.getElem?_eq_some_iff.mp hw).1
    rw [o _ (by omega) (by omega) (by omega)]
    by_cases e : j = k
    · rw [e] at hw ⊢
      rw [hv] at hw
      have e7 : v = w := Option.some.inj hw
      rw [hb, e7]
    · exact a5 j w hw (by omega)
  · have hj := (List.getElem?_eq_some_iff.mp hw).1
    exact ⟨(o _ (by omega) (by omega) (by omega)).trans ((a6 d' hd').2 j w hw).1, (o _ (by omega) (by omega) (by omega)).trans ((a6 d' hd').2 j w hw).2⟩
  · have hj2 := (List.getElem?_eq_some_iff.mp hw).1
    by_cases e : j = k
    · rw [e] at hw ⊢
      rw [hv] at hw
      have e7 : v = w := Option.some.inj hw
      rw [o2, o3, e7]
      exact ⟨rfl, rfl⟩
    · rw [o _ (by omega) (by omega) (by omega), o _ (by omega) (by omega) (by omega)]
      exact a8 j w hw (by omega)
/-- a new draft begins -/
theorem zAc.draft {f : Nat → Int32} {M : zB} {pf ac d : Nat} (H : zAc f M pf ac d M.length) (hM : M.length ≤ 10) (hd : d < 2) : zAc (upd f (12 + 31 * (d + 1)) 0) M pf ac (d + 1) 0 ∨ d = 1 := by
  by_cases e : d = 1
  · exact Or.inr e
  · refine Or.inl ?_
    have hd0 : d = 0 := by omega
    rw [hd0] at H ⊢
    obtain ⟨a1, a2, a3, a4, a5, a6, a7, a8⟩ := H
    refine ⟨(upd_n (by omega)).trans a1, (upd_n (by omega)).trans a2, (upd_n (by omega)).trans a3, (upd_n (by omega)).trans a4, fun j w hw _ => ?_, fun d' hd' => ?_, upd_s, fun j w hw hj => absurd hj (Nat.not_lt_zero _)⟩
    · have hj := (List.getElem?_eq_some_iff.mp hw).1
      exact (upd_n (by omega)).trans (a5 j w hw (Or.inl hj))
    · have hd9 : d' = 0 := by omega
      rw [hd9]
      refine ⟨(upd_n (by omega)).trans a7, fun j w hw => ?_⟩
      have hj := (List.getElem?_eq_some_iff.mp hw).1
      exact ⟨(upd_n (by omega)).trans (a8 j w hw hj).1, (upd_n (by omega)).trans (a8 j w hw hj).2⟩
theorem zAc.end {f f' : Nat → Int32} {M : zB} {pf ac : Nat} (H : zAc f M pf ac 1 M.length) (hM : M.length ≤ 10) (hlt : ∀ v ∈ M, v.2 < 1000) (hf : ∀ w, f' w = if w = 105 then nI (ac + 1) else if 74 ≤ w ∧ w < 104 then 0 else f w) : zRs f' (zre M, zre M, zre M, M.length, pf, ac + 1, fun _ => -1) := by
  obtain ⟨a1, a2, a3, a4, a5, a6, a7, a8⟩ := H
  have o : ∀ w, w ≠ 105 → ¬ (74 ≤ w ∧ w < 104) → f' w = f w := fun w z1 z2 => by rw [hf, if_neg z1, if_neg z2]
  have hz : ∀ i v, (zre M)[i]? = some v → ∃ u, M[i]? = some u ∧ v = (i, u.2) ∧ i < M.length := by
    intro i v hv
    rw [zre_get] at hv
    cases e : M[i]? with
    | none => rw [e] at hv; exact nomatch hv
    | some u =>
      rw [e] at hv
      have e7 : (i, u.2) = v := Option.some.inj hv
      exact ⟨u, rfl, e7.symm, (List.getElem?_eq_some_iff.mp e).1⟩
  have hm : ∀ v ∈ zre M, v.1 < 1000 ∧ v.2 < 1000 := by
    intro v hv
    obtain ⟨i, hi⟩ := List.mem_iff_getElem?.mp hv
    obtain ⟨u, u1, u2, u3⟩ := hz i v hi
    rw [u2]
    exact ⟨by show i < 1000; omega, hlt u (List.mem_of_getElem? u1)⟩
  have hdr : ∀ d, zdr (zre M, zre M, zre M, M.length, pf, ac + 1, fun _ => -1) d = zre M := fun d => by
    unfold zdr
    split <;> rfl
  refine ⟨?_, ?_, fun i v hv => ?_, fun d hd => ?_, fun k hk => ?_, ?_, ?_, ?_, fun d => ?_, hm, fun d => ?_, ?_⟩
  · show f' 0 = nI (zre M).length
    rw [zre_len, o _ (by omega) (by omega), a1]
  · show f' 1 = nI M.length
    rw [o _ (by omega) (by omega), a2]
  · obtain ⟨u, u1, u2, u3⟩ := hz i v hv
    rw [o _ (by omega) (by omega), u2]
    exact a5 i u u1 (Or.inr (by decide))
  · rw [hdr, zre_len]
    have key : f (12 + 31 * d) = nI M.length ∧ ∀ j v, M[j]? = some v → f (13 + 31 * d + j) = nI j ∧ f (28 + 31 * d + j) = nI v.2 := by
      rcases (by omega : d = 0 ∨ d = 1) with e | e
      · rw [e]; exact a6 0 (by decide)
      · rw [e]
        exact ⟨a7, fun j v hv => a8 j v hv (List.getElem?_eq_some_iff.mp hv).1⟩
    refine ⟨(o _ (by omega) (by omega)).trans key.1, fun j v hv => ?_⟩
    obtain ⟨u, u1, u2, u3⟩ := hz j v hv
    have k2 := key.2 j u u1
    rw [show 12 + 31 * d + (1 + j) = 13 + 31 * d + j by omega, show 12 + 31 * d + (16 + j) = 28 + 31 * d + j by omega, o _ (by omega) (by omega), o _ (by omega) (by omega), u2]
    exact k2
  · show f' (74 + k) = -1 + 1
    rw [hf, if_neg (by omega), if_pos (by omega)]
    decide
  · show f' 104 = nI pf
    rw [o _ (by omega) (by omega), a3]
  · show f' 105 = nI (ac + 1)
    rw [hf, if_pos rfl]
  · show (zre M).length ≤ 10
    rw [zre_len]
    exact hM
  · rw [hdr, zre_len]
    omega
  · rw [hdr]
    exact hm
  · show M.length ≤ 1000
    omega

