/-! The reference: lays -/
/-- a row when the places from k + 1 on have moved one place on -/
def zlg (f : Nat → Int32) (len k : Nat) : Nat → Int32 := fun w => if k < w ∧ w ≤ len then f (w - 1) else f w
theorem zlg_s {f f3 : Nat → Int32} {len m : Nat} (hm : m + 1 ≤ len) (h : ∀ w, f3 w = zlg f len (m + 1) w) : ∀ w, upd f3 (m + 1) (f3 m) w = zlg f len m w := by
  intro w
  by_cases e3 : w = m + 1
  · rw [e3, upd_s, h]
    unfold zlg
    rw [if_neg (by omega), if_pos (show m < m + 1 ∧ m + 1 ≤ len by omega)]
    rfl
  · rw [upd_n e3, h]
    unfold zlg
    by_cases e4 : m < w ∧ w ≤ len
    · rw [if_pos (show m + 1 < w ∧ w ≤ len by omega), if_pos e4]
    · rw [if_neg (show ¬ (m + 1 < w ∧ w ≤ len) by omega), if_neg e4]
theorem zlg_at {f f' : Nat → Int32} {M : zB} {p : Nat} {u : Nat × Nat} {g : Nat × Nat → Int32} (hp : p ≤ M.length) (h : ∀ j v, M[j]? = some v → f j = g v) (h' : ∀ w, f' w = upd (zlg f M.length p) p (g u) w) : ∀ j v, (M.insertIdx p u)[j]? = some v → f' j = g v := by
  intro j v hv
  have hj := (List.getElem?_eq_some_iff.mp hv).1
  rw [List.length_insertIdx_of_le_length hp] at hj
  rw [List.getElem?_insertIdx] at hv
  rw [h']
  by_cases c1 : j < p
  · rw [if_pos c1] at hv
    rw [upd_n (by omega)]
    unfold zlg
    rw [if_neg (by omega)]
    exact h j v hv
  · rw [if_neg c1] at hv
    by_cases c2 : j = p
    · rw [if_pos c2, if_pos (show j ≤ M.length by omega)] at hv
      have e : u = v := Option.some.inj hv
      rw [c2, upd_s, e]
    · rw [if_neg c2] at hv
      rw [upd_n c2]
      unfold zlg
      rw [if_pos (by omega)]
      exact h (j - 1) v hv

