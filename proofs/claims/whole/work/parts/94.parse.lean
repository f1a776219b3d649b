/-! The reference's reading and the program's are one: numbers -/
theorem zN_ex {T : List Int32} (hT : ∀ c ∈ T, (33 : Int32) ≤ c ∧ c ≤ 126) (s : Nat) : ∃ m, m < 127 ∧ zN T s = nI m := by
  unfold zN
  cases e : T[s]? with
  | none => exact ⟨0, by decide, rfl⟩
  | some c =>
    obtain ⟨h1, h2⟩ := hT c (List.mem_of_getElem? e)
    have h3 : ¬ c < 0 := fun z => by
      rw [Int32.le_iff_toInt_le, show (33 : Int32).toInt = 33 by decide] at h1
      rw [Int32.lt_iff_toInt_lt, show (0 : Int32).toInt = 0 by decide] at z
      omega
    obtain ⟨j, hj, e2⟩ := nI_of2 (M := 126) (n := 126) (by decide) h3 h2
    exact ⟨j, by omega, e2⟩
theorem zN_at {T : List Int32} {s m : Nat} (e : zN T s = nI m) (h0 : 0 < m) (h : m < 127) : T[s]? = some (nI m) := by
  unfold zN at e
  cases e2 : T[s]? with
  | none =>
    rw [e2] at e
    have e3 : (0 : Int32) = nI m := e
    exact absurd e3.symm (nI_ne0 h0 (by omega))
  | some c =>
    rw [e2] at e
    have e3 : c = nI m := e
    rw [e3]
theorem zN_some {T : List Int32} {s : Nat} {c : Int32} (e : T[s]? = some c) : zN T s = c := by
  unfold zN
  rw [e]
  rfl
theorem zlt48 {m k : Nat} (h : m < 127) (hk : k < 127) : nI m < nI k ↔ m < k := nI_ltI (by omega) (by omega)
theorem zvd {m H : Nat} (h : m < 127) (hH : H ≤ 9) : (0 ≤ nI m - 48 ∧ nI m - 48 ≤ nI H) ↔ (48 ≤ m ∧ m ≤ 48 + H) := by
  rw [show (48 : Int32) = nI 48 by decide]
  by_cases c : 48 ≤ m
  · rw [pk_sub c]
    constructor
    · intro z
      have := (nI_leI (by omega) (by omega)).mp z.2
      omega
    · intro z
      exact ⟨nI_pos' (by omega), (nI_leI (by omega) (by omega)).mpr (by omega)⟩
  · constructor
    · intro z
      exact absurd (pk_sneg (by omega) (by omega)) (Int32.not_lt.mpr z.1)
    · intro z
      omega
theorem zwd_n {m L : Nat} (h : m < 127) (hL : 9 ≤ L ∧ L < 127) : zwd (-1) (nI m) (nI L) = if 48 ≤ m ∧ m ≤ 57 then nI (m - 48) else -1 := by
  unfold zwd
  rw [show (48 : Int32) = nI 48 by decide, show (57 : Int32) = nI 57 by decide]
  by_cases c1 : m < 48
  · rw [if_pos ((zlt48 h (by decide)).mpr c1), if_neg (by omega)]
  · rw [if_neg (fun z => c1 ((zlt48 h (by decide)).mp z))]
    by_cases c2 : 57 < m
    · rw [if_pos ((zlt48 (by decide) h).mpr c2), if_neg (by omega)]
    · rw [if_neg (fun z => c2 ((zlt48 (by decide) h).mp z)), if_neg (by decide), if_pos rfl, if_pos (show 48 ≤ m ∧ m ≤ 57 by omega), Int32.zero_add, pk_sub (by omega), if_neg (fun z => nI_nlt (show m - 48 ≤ L by omega) (by omega) z)]
theorem zwd_v {v m L : Nat} (hv : v < 127) (h : m < 127) (hL : L < 127) : zwd (nI v) (nI m) (nI L) = if 0 < v ∧ (48 ≤ m ∧ m ≤ 57) ∧ 10 * v + (m - 48) ≤ L then nI (10 * v + (m - 48)) else -1 := by
  unfold zwd
  rw [show (48 : Int32) = nI 48 by decide, show (57 : Int32) = nI 57 by decide]
  by_cases c1 : m < 48
  · rw [if_pos ((zlt48 h (by decide)).mpr c1), if_neg (by omega)]
  · rw [if_neg (fun z => c1 ((zlt48 h (by decide)).mp z))]
    by_cases c2 : 57 < m
    · rw [if_pos ((zlt48 (by decide) h).mpr c2), if_neg (by omega)]
    · rw [if_neg (fun z => c2 ((zlt48 (by decide) h).mp z))]
      by_cases c3 : v = 0
      · rw [if_pos (by rw [c3]; rfl), if_neg (by omega)]
      · rw [if_neg (show ¬ nI v = 0 from fun z => c3 (nI_inj (b := 0) (by omega) (by decide) z)), if_neg (nI_ne_m1 (by omega)), show (10 : Int32) = nI 10 by decide, pk_mul, nI_add, pk_sub (by omega), show v * 10 + m - 48 = 10 * v + (m - 48) by omega]
        by_cases c4 : 10 * v + (m - 48) ≤ L
        · rw [if_neg (fun z => nI_nlt c4 (by omega) z), if_pos (by omega)]
        · rw [if_pos (nI_lt (by omega) (by omega)), if_neg (by omega)]
theorem zrS_w {T : List Int32} {x : Int32} {s : Nat} : zrS T x (true, s) = (true, s) := rfl
theorem zrD_w {T : List Int32} {x : Int32} {s : Nat} : zrD T x (true, s) = (true, s) := rfl
theorem zrN_w {T : List Int32} {x : Int32} {s : Nat} : zrNp T x (true, s) = (true, s) := rfl
theorem zrS_1 {T : List Int32} {x : Int32} {s : Nat} (h : zN T s = x) : zrS T x (false, s) = (false, s + 1) := by
  unfold zrS
  rw [show ((false, s) : Bool × Nat).2 = s from rfl, decide_eq_true h]
  rfl
theorem zrS_0 {T : List Int32} {x : Int32} {s : Nat} (h : ¬ zN T s = x) : zrS T x (false, s) = (true, s) := by
  unfold zrS
  rw [show ((false, s) : Bool × Nat).2 = s from rfl, decide_eq_false h]
  rfl
theorem zrD_1 {T : List Int32} {x : Int32} {s : Nat} (h : 0 ≤ zN T s - 48 ∧ zN T s - 48 ≤ x) : zrD T x (false, s) = (false, s + 1) := by
  unfold zrD zrV
  rw [show ((false, s) : Bool × Nat).2 = s from rfl, decide_eq_true h.1, decide_eq_true h.2]
  rfl
theorem zrD_0 {T : List Int32} {x : Int32} {s : Nat} (h : ¬ (0 ≤ zN T s - 48 ∧ zN T s - 48 ≤ x)) : zrD T x (false, s) = (true, s) := by
  unfold zrD zrV
  rw [show ((false, s) : Bool × Nat).2 = s from rfl]
  by_cases c : 0 ≤ zN T s - 48
  · rw [decide_eq_true c, decide_eq_false (fun z => h ⟨c, z⟩)]
    rfl
  · rw [decide_eq_false c]
    rfl
theorem zrNb_iff {T : List Int32} {most : Int32} {p : Bool × Nat} : zrNb T most p = true ↔ (zrD T 9 p).1 = false ∧ 0 < zrV T p ∧ (48 ≤ zN T (zrD T 9 p).2 ∧ zN T (zrD T 9 p).2 ≤ 57) ∧ zr2 T p ≤ most := by
  unfold zrNb
  rw [Bool.and_eq_true, Bool.and_eq_true, Bool.and_eq_true, Bool.and_eq_true, Bool.not_eq_true', decide_eq_true_iff, decide_eq_true_iff, decide_eq_true_iff, decide_eq_true_iff]
/-- how a number is read -/
theorem zrNum {T : List Int32} (hT : ∀ c ∈ T, (33 : Int32) ≤ c ∧ c ≤ 126) {L : Nat} (hL : 9 ≤ L ∧ L < 100) (s : Nat) : (zrNp T (nI L) (false, s) = (true, s) ∧ zwd (-1) (zN T s) (nI L) = -1) ∨ ∃ v m, v < 100 ∧ m < 127 ∧ zwd (-1) (zN T s) (nI L) = nI m ∧ (∃ c, T[s]? = some c ∧ ¬ c = 59 ∧ ¬ c = 61 ∧ ¬ c = 62) ∧ ((zrNp T (nI L) (false, s) = (false, s + 1) ∧ zrNv T (nI L) (false, s) = nI v ∧ m = v ∧ zwd (nI v) (zN T (s + 1)) (nI L) = -1) ∨ (zrNp T (nI L) (false, s) = (false, s + 2) ∧ zrNv T (nI L) (false, s) = nI v ∧ zwd (nI m) (zN T (s + 1)) (nI L) = nI v ∧ (∃ c, T[s + 1]? = some c ∧ ¬ c = 59 ∧ ¬ c = 61 ∧ ¬ c = 62) ∧ zwd (nI v) (zN T (s + 2)) (nI L) = -1)) := by
  obtain ⟨m0, h0, e0⟩ := zN_ex hT s
  obtain ⟨m1, h1, e1⟩ := zN_ex hT (s + 1)
  obtain ⟨m2, h2, e2⟩ := zN_ex hT (s + 2)
  have hz := zwd_n h0 (L := L) ⟨hL.1, by omega⟩
  have dig : ∀ t m, zN T t = nI m → 48 ≤ m → m ≤ 57 → ∃ c, T[t]? = some c ∧ ¬ c = 59 ∧ ¬ c = 61 ∧ ¬ c = 62 := by
    intro t m e a b
    refine ⟨nI m, zN_at e (by omega) (by omega), fun z => ?_, fun z => ?_, fun z => ?_⟩
    · have := nI_inj (b := 59) (by omega) (by decide) z
      omega
    · have := nI_inj (b := 61) (by omega) (by decide) z
      omega
    · have := nI_inj (b := 62) (by omega) (by decide) z
      omega
  by_cases c : 48 ≤ m0 ∧ m0 ≤ 57
  · rw [if_pos c] at hz
    right
    have hd : zrD T 9 (false, s) = (false, s + 1) := zrD_1 (by rw [e0]; exact (zvd h0 (H := 9) (by decide)).mpr ⟨c.1, by omega⟩)
    have hV : zrV T (false, s) = nI (m0 - 48) := by
      unfold zrV
      rw [show ((false, s) : Bool × Nat).2 = s from rfl, e0, show (48 : Int32) = nI 48 by decide, pk_sub c.1]
    have hw1 := zwd_v (v := m0 - 48) (m := m1) (L := L) (by omega) h1 (by omega)
    by_cases g : 0 < m0 - 48 ∧ (48 ≤ m1 ∧ m1 ≤ 57) ∧ 10 * (m0 - 48) + (m1 - 48) ≤ L
    · rw [if_pos g] at hw1
      have h2v : zr2 T (false, s) = nI (10 * (m0 - 48) + (m1 - 48)) := by
        unfold zr2
        rw [hd, hV]
        show 10 * nI (m0 - 48) + zN T (s + 1) - 48 = _
        rw [e1, show (10 : Int32) = nI 10 by decide, show (48 : Int32) = nI 48 by decide, pk_mul, nI_add, pk_sub (by omega), show 10 * (m0 - 48) + m1 - 48 = 10 * (m0 - 48) + (m1 - 48) by omega]
      have hb : zrNb T (nI L) (false, s) = true := by
        rw [zrNb_iff, hd, hV, h2v]
        refine ⟨rfl, nI_lt (a := 0) g.1 (by omega), ?_, (nI_leI (by omega) (by omega)).mpr g.2.2⟩
        show 48 ≤ zN T (s + 1) ∧ zN T (s + 1) ≤ 57
        rw [e1, show (48 : Int32) = nI 48 by decide, show (57 : Int32) = nI 57 by decide]
        exact ⟨(nI_leI (by decide) (by omega)).mpr g.2.1.1, (nI_leI (by omega) (by decide)).mpr g.2.1.2⟩
      have hw2 := zwd_v (v := 10 * (m0 - 48) + (m1 - 48)) (m := m2) (L := L) (by omega) h2 (by omega)
      rw [if_neg (by omega)] at hw2
      refine ⟨10 * (m0 - 48) + (m1 - 48), m0 - 48, by omega, by omega, by rw [e0, hz], dig s m0 e0 c.1 c.2, Or.inr ⟨?_, ?_, by rw [e1, hw1], dig (s + 1) m1 e1 g.2.1.1 g.2.1.2, by rw [e2, hw2]⟩⟩
      · unfold zrNp
        rw [hb, hd]
      · unfold zrNv
        rw [hb]
        exact h2v
    · rw [if_neg g] at hw1
      have hb : zrNb T (nI L) (false, s) = false := by
        refine Bool.eq_false_iff.mpr fun z => g ?_
        have zz := zrNb_iff.mp z
        rw [hd, hV] at zz
        obtain ⟨-, z1, z2, z3⟩ := zz
        have z1' : 0 < m0 - 48 := (nI_ltI (a := 0) (by decide) (by omega)).mp z1
        have z2' : 48 ≤ zN T (s + 1) ∧ zN T (s + 1) ≤ 57 := z2
        rw [e1, show (48 : Int32) = nI 48 by decide, show (57 : Int32) = nI 57 by decide] at z2'
        have z4 : 48 ≤ m1 := (nI_leI (by decide) (by omega)).mp z2'.1
        have z5 : m1 ≤ 57 := (nI_leI (by omega) (by decide)).mp z2'.2
        have h2v : zr2 T (false, s) = nI (10 * (m0 - 48) + (m1 - 48)) := by
          unfold zr2
          rw [hd, hV]
          show 10 * nI (m0 - 48) + zN T (s + 1) - 48 = _
          rw [e1, show (10 : Int32) = nI 10 by decide, show (48 : Int32) = nI 48 by decide, pk_mul, nI_add, pk_sub (by omega), show 10 * (m0 - 48) + m1 - 48 = 10 * (m0 - 48) + (m1 - 48) by omega]
        rw [h2v] at z3
        exact ⟨z1', ⟨z4, z5⟩, (nI_leI (by omega) (by omega)).mp z3⟩
      refine ⟨m0 - 48, m0 - 48, by omega, by omega, by rw [e0, hz], dig s m0 e0 c.1 c.2, Or.inl ⟨?_, ?_, rfl, by rw [e1, hw1]⟩⟩
      · unfold zrNp
        rw [hb, hd]
      · unfold zrNv
        rw [hb]
        exact hV
  · rw [if_neg c] at hz
    left
    have hd : zrD T 9 (false, s) = (true, s) := zrD_0 (by rw [e0]; exact fun z => c ⟨((zvd h0 (H := 9) (by decide)).mp z).1, by have := ((zvd h0 (H := 9) (by decide)).mp z).2; omega⟩)
    have hb : zrNb T (nI L) (false, s) = false := by
      refine Bool.eq_false_iff.mpr fun z => ?_
      have zz := zrNb_iff.mp z
      rw [hd] at zz
      exact absurd zz.1 (show ¬ true = false by decide)
    refine ⟨?_, by rw [e0, hz]⟩
    unfold zrNp
    rw [hb, hd]

