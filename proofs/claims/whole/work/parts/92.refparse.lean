/-! The reference: reading a text -/
def zN (T : List Int32) (s : Nat) : Int32 := (T[s]?).getD 0
def zbw (w : Bool) : Int32 := match w with
  | true => 1
  | false => 0
/-- wrong or not, the spot goes on when not -/
def zrA (w : Bool) (s : Nat) : Bool × Nat := (w, match w with
  | true => s
  | false => s + 1)
def zrS (T : List Int32) (x : Int32) (p : Bool × Nat) : Bool × Nat := zrA (p.1 || !decide (zN T p.2 = x)) p.2
def zrV (T : List Int32) (p : Bool × Nat) : Int32 := zN T p.2 - 48
def zrD (T : List Int32) (hi : Int32) (p : Bool × Nat) : Bool × Nat := zrA (p.1 || !(decide (0 ≤ zrV T p) && decide (zrV T p ≤ hi))) p.2
def zr2 (T : List Int32) (p : Bool × Nat) : Int32 := 10 * zrV T p + zN T (zrD T 9 p).2 - 48
def zrNb (T : List Int32) (most : Int32) (p : Bool × Nat) : Bool := !(zrD T 9 p).1 && (decide (0 < zrV T p) && ((decide (48 ≤ zN T (zrD T 9 p).2) && decide (zN T (zrD T 9 p).2 ≤ 57)) && decide (zr2 T p ≤ most)))
def zrNp (T : List Int32) (most : Int32) (p : Bool × Nat) : Bool × Nat := match zrNb T most p with
  | true => ((zrD T 9 p).1, (zrD T 9 p).2 + 1)
  | false => zrD T 9 p
def zrNv (T : List Int32) (most : Int32) (p : Bool × Nat) : Int32 := match zrNb T most p with
  | true => zr2 T p
  | false => zrV T p
def zrCl (T : List Int32) (p : Bool × Nat) : Int32 := match (zrD T 1 p).1 with
  | true => 0
  | false => zN T (zrD T 1 p).2
def zrK (l : Int32) : Bool := decide (l = 101) || (decide (l = 109) || (decide (l = 105) || decide (l = 114)))
def zrC2 (T : List Int32) (p : Bool × Nat) : Bool × Nat := zrA ((zrD T 1 p).1 || !zrK (zrCl T p)) (zrD T 1 p).2
def zrC3 (T : List Int32) (p : Bool × Nat) : Bool × Nat := zrNp T 15 (zrC2 T p)
def zrCf (T : List Int32) (p : Bool × Nat) : Int32 := zrNv T 15 (zrC2 T p)
def zrC4 (T : List Int32) (p : Bool × Nat) : Bool × Nat := if zrCl T p = 109 then zrS T 62 (zrC3 T p) else zrS T 61 (zrC3 T p)
def zrCp (T : List Int32) (p : Bool × Nat) : Bool × Nat := if zrCl T p = 109 then zrNp T 15 (zrC4 T p) else if zrCl T p = 114 then zrC3 T p else zrNp T 99 (zrC4 T p)
def zrCs (T : List Int32) (p : Bool × Nat) (o : Int32) : Int32 := if zrCl T p = 109 then zrNv T 15 (zrC4 T p) else if zrCl T p = 114 then o else zrNv T 99 (zrC4 T p)
theorem zrA_le {w : Bool} {s : Nat} : s ≤ (zrA w s).2 ∧ (zrA w s).2 ≤ s + 1 := by
  cases w with
  | true => exact ⟨Nat.le_refl _, Nat.le_succ _⟩
  | false => exact ⟨Nat.le_succ _, Nat.le_refl _⟩
theorem zrS_le {T : List Int32} {x : Int32} {p : Bool × Nat} : p.2 ≤ (zrS T x p).2 ∧ (zrS T x p).2 ≤ p.2 + 1 := zrA_le
theorem zrD_le {T : List Int32} {x : Int32} {p : Bool × Nat} : p.2 ≤ (zrD T x p).2 ∧ (zrD T x p).2 ≤ p.2 + 1 := zrA_le
theorem zrNp_le {T : List Int32} {x : Int32} {p : Bool × Nat} : p.2 ≤ (zrNp T x p).2 ∧ (zrNp T x p).2 ≤ p.2 + 2 := by
  have h1 := zrD_le (T := T) (x := 9) (p := p)
  unfold zrNp
  cases zrNb T x p with
  | true => exact ⟨by show p.2 ≤ (zrD T 9 p).2 + 1; omega, by show (zrD T 9 p).2 + 1 ≤ p.2 + 2; omega⟩
  | false => exact ⟨by show p.2 ≤ (zrD T 9 p).2; omega, by show (zrD T 9 p).2 ≤ p.2 + 2; omega⟩
theorem zrC2_le {T : List Int32} {p : Bool × Nat} : p.2 ≤ (zrC2 T p).2 ∧ (zrC2 T p).2 ≤ p.2 + 2 := by
  have h1 := zrD_le (T := T) (x := 1) (p := p)
  have h2 := zrA_le (w := (zrD T 1 p).1 || !zrK (zrCl T p)) (s := (zrD T 1 p).2)
  unfold zrC2
  omega
theorem zrC3_le {T : List Int32} {p : Bool × Nat} : p.2 ≤ (zrC3 T p).2 ∧ (zrC3 T p).2 ≤ p.2 + 4 := by
  have h1 := zrC2_le (T := T) (p := p)
  have h2 := zrNp_le (T := T) (x := 15) (p := zrC2 T p)
  unfold zrC3
  omega
theorem zrC4_le {T : List Int32} {p : Bool × Nat} : p.2 ≤ (zrC4 T p).2 ∧ (zrC4 T p).2 ≤ p.2 + 5 := by
  have h1 := zrC3_le (T := T) (p := p)
  have h2 := zrS_le (T := T) (x := 62) (p := zrC3 T p)
  have h3 := zrS_le (T := T) (x := 61) (p := zrC3 T p)
  unfold zrC4
  split <;> omega
theorem zrCp_le {T : List Int32} {p : Bool × Nat} : p.2 ≤ (zrCp T p).2 ∧ (zrCp T p).2 ≤ p.2 + 7 := by
  have h1 := zrC3_le (T := T) (p := p)
  have h4 := zrC4_le (T := T) (p := p)
  have h2 := zrNp_le (T := T) (x := 15) (p := zrC4 T p)
  have h3 := zrNp_le (T := T) (x := 99) (p := zrC4 T p)
  unfold zrCp
  split
  · omega
  · split <;> omega
/-- the reference reads at s; w: it was wrong already -/
def zPr (h : zH) (r : Nat) (c : Nat → Int32) (A : zA) (p : Bool × Nat) : Prop := zYc h r c A ∧ c 16 = nI p.2 ∧ c 17 = zbw p.1
theorem zPr.ob {h : zH} {r : Nat} {c : Nat → Int32} {A : zA} {p : Bool × Nat} (H : zPr h r c A p) : h r = zRO r c := H.1.1.1
/-- the plain fields apart from spot and wrong -/
def zPk (c c' : Nat → Int32) : Prop := ∀ j, j ≠ 16 → j ≠ 17 → c' j = c j
theorem zPk.rf {c : Nat → Int32} : zPk c c := fun _ _ _ => rfl
theorem zPk.tr {c c1 c2 : Nat → Int32} (a : zPk c c1) (b : zPk c1 c2) : zPk c c2 := fun j z1 z2 => (b j z1 z2).trans (a j z1 z2)
set_option maxRecDepth 100000 in
theorem S_X7_next {C : zK} (hC : zCld 215 zTT C) {h : zH} {n : Nat} {K : zQ} {r : Nat} {c : Nat → Int32} {A : zA} {p : Bool × Nat} (H : zPr h r c A p) (hT : A.2.2.length ≤ 60) (hs : p.2 ≤ 1000) (H1 : K 0 (some (.int (zN A.2.2 p.2))) h n) : C 180 [.ref r] h n K := by
  obtain ⟨⟨⟨a1, f, a2, a3⟩, ⟨bf, b1, b2⟩, ⟨tf, t1, t2⟩, s, e2, e4⟩, e16, e17⟩ := H
  unfold zN at H1
  refine zd_X7_next hC rfl fun P hgo hF => ?_
  refine hgo [] 40 _ _ _ _ _ _ _ ?_
  conv => whnf
  refine ⟨_, a1, _, rfl, ?_⟩
  conv => whnf
  rw [e16]
  refine ⟨_, a1, _, rfl, ?_⟩
  conv => whnf
  rw [e4]
  refine ⟨fun q => ?_, fun q => ?_⟩
  · have hq : A.2.2.length ≤ p.2 := (nI_leI (by omega) (by omega)).mp q
    rw [List.getElem?_eq_none hq] at H1
    conv => whnf
    exact H1
  · have hq : p.2 < A.2.2.length := Nat.lt_of_not_le fun z => q ((nI_leI (by omega) (by omega)).mpr z)
    have hx := List.getElem?_eq_getElem hq
    rw [hx] at H1
    have H2 : K 0 (some (.int A.2.2[p.2])) h n := H1
    rw [← t2 p.2 _ hx] at H2
    conv => whnf
    refine ⟨_, a1, _, rfl, ?_⟩
    conv => whnf
    refine ⟨_, a1, _, rfl, ?_⟩
    conv => whnf
    rw [e16]
    refine ⟨_, _, t1, vp_in_nI (show p.2 < 60 by omega) (by decide), ?_⟩
    rw [nI_clamp (show p.2 < 2 ^ 31 by omega)]
    conv => whnf
    exact H2
set_option maxRecDepth 100000 in
theorem S_X7_sign {C : zK} (hC : zCld 215 zTT C) {h : zH} {n : Nat} {K : zQ} {r : Nat} {c : Nat → Int32} {A : zA} {p : Bool × Nat} {x : Int32} (H : zPr h r c A p) (hT : A.2.2.length ≤ 60) (hs : p.2 ≤ 1000) (H1 : ∀ h' c', zPr h' r c' A (zrS A.2.2 x p) → zPk c c' → zOff r (r + 1) h h' → K 0 none h' n) : C 181 [.ref r, .int x] h n K := by
  refine zd_X7_sign hC rfl fun P hgo hF => ?_
  have tl : ∀ w2 : Bool, (∀ h' c', zPr h' r c' A (zrA w2 p.2) → zPk c c' → zOff r (r + 1) h h' → K 0 none h' n) → P 21 [some (.ref r), some (.int x)] [.int (zbw w2), .ref r] h n 0 0 := by
    intro w2 G
    obtain ⟨H0, e16, e17⟩ := id H
    cases w2 with
    | true =>
      have H2 : zYc (zupd h r (zRO r (upd c 17 1))) r (upd c 17 1) A := H0.fld (upd_n (by decide)) (upd_n (by decide))
      have H3 : zYc (zupd (zupd h r (zRO r (upd c 17 1))) r (zRO r (upd (upd c 17 1) 16 (nI p.2 + 0)))) r (upd (upd c 17 1) 16 (nI p.2 + 0)) A := H2.fld (upd_n (by decide)) (upd_n (by decide))
      have k9 := G _ _ ⟨H3, upd_s.trans (Int32.add_zero _), (upd_n (by decide)).trans upd_s⟩ (fun j z1 z2 => (upd_n z1).trans (upd_n z2)) ((zOff.up (Nat.le_refl _) (by omega)).tr (zOff.up (Nat.le_refl _) (by omega)))
      refine hgo [] 60 _ _ _ _ _ _ _ ?_
      conv => whnf
      refine ⟨_, H0.ob, Nat.le_of_ble_eq_true rfl, ⟨rfl, rfl⟩, ?_⟩
      conv => whnf
      refine ⟨_, H2.ob, _, rfl, ?_⟩
      conv => whnf
      rw [show upd c 17 1 16 = nI p.2 from (upd_n (by decide)).trans e16]
      refine ⟨_, H2.ob, _, rfl, ?_⟩
      conv => whnf
      rw [show upd c 17 1 17 = 1 from upd_s]
      refine ⟨fun z => absurd z (by decide), fun _ => ?_⟩
      conv => whnf
      refine ⟨_, H2.ob, Nat.le_of_ble_eq_true rfl, ⟨rfl, rfl⟩, ?_⟩
      conv => whnf
      exact k9
    | false =>
      have H2 : zYc (zupd h r (zRO r (upd c 17 0))) r (upd c 17 0) A := H0.fld (upd_n (by decide)) (upd_n (by decide))
      have H3 : zYc (zupd (zupd h r (zRO r (upd c 17 0))) r (zRO r (upd (upd c 17 0) 16 (nI p.2 + 1)))) r (upd (upd c 17 0) 16 (nI p.2 + 1)) A := H2.fld (upd_n (by decide)) (upd_n (by decide))
      have k9 := G _ _ ⟨H3, upd_s.trans (nI_1 _), (upd_n (by decide)).trans upd_s⟩ (fun j z1 z2 => (upd_n z1).trans (upd_n z2)) ((zOff.up (Nat.le_refl _) (by omega)).tr (zOff.up (Nat.le_refl _) (by omega)))
      refine hgo [] 60 _ _ _ _ _ _ _ ?_
      conv => whnf
      refine ⟨_, H0.ob, Nat.le_of_ble_eq_true rfl, ⟨rfl, rfl⟩, ?_⟩
      conv => whnf
      refine ⟨_, H2.ob, _, rfl, ?_⟩
      conv => whnf
      rw [show upd c 17 0 16 = nI p.2 from (upd_n (by decide)).trans e16]
      refine ⟨_, H2.ob, _, rfl, ?_⟩
      conv => whnf
      rw [show upd c 17 0 17 = 0 from upd_s]
      refine ⟨fun _ => ?_, fun z => absurd rfl z⟩
      conv => whnf
      refine ⟨_, H2.ob, Nat.le_of_ble_eq_true rfl, ⟨rfl, rfl⟩, ?_⟩
      conv => whnf
      exact k9
  have e17 := H.2.2
  refine hgo [21] 60 _ _ _ _ _ _ _ ?_
  conv => whnf
  refine ⟨_, H.ob, _, rfl, ?_⟩
  conv => whnf
  rw [e17]
  unfold zrS at H1
  cases hw : p.1 with
  | true =>
    rw [hw] at H1
    have k9 := tl true H1
    refine ⟨fun _ => ?_, fun z => absurd z (by decide)⟩
    conv => whnf
    exact k9
  | false =>
    rw [hw] at H1
    refine ⟨fun z => absurd rfl z, fun _ => ?_⟩
    conv => whnf
    refine ⟨_, H.ob, ?_⟩
    refine S_X7_next hC H hT hs ?_
    conv => whnf
    refine ⟨fun q => ?_, fun q => ?_⟩
    · rw [decide_eq_true q] at H1
      have k9 := tl false H1
      conv => whnf
      exact k9
    · rw [decide_eq_false q] at H1
      have k9 := tl true H1
      conv => whnf
      exact k9
set_option maxRecDepth 100000 in
theorem S_X7_digit {C : zK} (hC : zCld 215 zTT C) {h : zH} {n : Nat} {K : zQ} {r : Nat} {c : Nat → Int32} {A : zA} {p : Bool × Nat} {x : Int32} (H : zPr h r c A p) (hT : A.2.2.length ≤ 60) (hs : p.2 ≤ 1000) (H1 : ∀ h' c', zPr h' r c' A (zrD A.2.2 x p) → zPk c c' → zOff r (r + 1) h h' → K 0 (some (.int (zrV A.2.2 p))) h' n) : C 182 [.ref r, .int x] h n K := by
  refine zd_X7_digit hC rfl fun P hgo hF => ?_
  have tl : ∀ w2 : Bool, (∀ h' c', zPr h' r c' A (zrA w2 p.2) → zPk c c' → zOff r (r + 1) h h' → K 0 (some (.int (zrV A.2.2 p))) h' n) → P 30 [some (.ref r), some (.int x), some (.int (zrV A.2.2 p))] [.int (zbw w2), .ref r] h n 0 0 := by
    intro w2 G
    obtain ⟨H0, e16, e17⟩ := id H
    cases w2 with
    | true =>
      have H2 : zYc (zupd h r (zRO r (upd c 17 1))) r (upd c 17 1) A := H0.fld (upd_n (by decide)) (upd_n (by decide))
      have H3 : zYc (zupd (zupd h r (zRO r (upd c 17 1))) r (zRO r (upd (upd c 17 1) 16 (nI p.2 + 0)))) r (upd (upd c 17 1) 16 (nI p.2 + 0)) A := H2.fld (upd_n (by decide)) (upd_n (by decide))
      have k9 := G _ _ ⟨H3, upd_s.trans (Int32.add_zero _), (upd_n (by decide)).trans upd_s⟩ (fun j z1 z2 => (upd_n z1).trans (upd_n z2)) ((zOff.up (Nat.le_refl _) (by omega)).tr (zOff.up (Nat.le_refl _) (by omega)))
      refine hgo [] 60 _ _ _ _ _ _ _ ?_
      conv => whnf
      refine ⟨_, H0.ob, Nat.le_of_ble_eq_true rfl, ⟨rfl, rfl⟩, ?_⟩
      conv => whnf
      refine ⟨_, H2.ob, _, rfl, ?_⟩
      conv => whnf
      rw [show upd c 17 1 16 = nI p.2 from (upd_n (by decide)).trans e16]
      refine ⟨_, H2.ob, _, rfl, ?_⟩
      conv => whnf
      rw [show upd c 17 1 17 = 1 from upd_s]
      refine ⟨fun z => absurd z (by decide), fun _ => ?_⟩
      conv => whnf
      refine ⟨_, H2.ob, Nat.le_of_ble_eq_true rfl, ⟨rfl, rfl⟩, ?_⟩
      conv => whnf
      exact k9
    | false =>
      have H2 : zYc (zupd h r (zRO r (upd c 17 0))) r (upd c 17 0) A := H0.fld (upd_n (by decide)) (upd_n (by decide))
      have H3 : zYc (zupd (zupd h r (zRO r (upd c 17 0))) r (zRO r (upd (upd c 17 0) 16 (nI p.2 + 1)))) r (upd (upd c 17 0) 16 (nI p.2 + 1)) A := H2.fld (upd_n (by decide)) (upd_n (by decide))
      have k9 := G _ _ ⟨H3, upd_s.trans (nI_1 _), (upd_n (by decide)).trans upd_s⟩ (fun j z1 z2 => (upd_n z1).trans (upd_n z2)) ((zOff.up (Nat.le_refl _) (by omega)).tr (zOff.up (Nat.le_refl _) (by omega)))
      refine hgo [] 60 _ _ _ _ _ _ _ ?_
      conv => whnf
      refine ⟨_, H0.ob, Nat.le_of_ble_eq_true rfl, ⟨rfl, rfl⟩, ?_⟩
      conv => whnf
      refine ⟨_, H2.ob, _, rfl, ?_⟩
      conv => whnf
      rw [show upd c 17 0 16 = nI p.2 from (upd_n (by decide)).trans e16]
      refine ⟨_, H2.ob, _, rfl, ?_⟩
      conv => whnf
      rw [show upd c 17 0 17 = 0 from upd_s]
      refine ⟨fun _ => ?_, fun z => absurd rfl z⟩
      conv => whnf
      refine ⟨_, H2.ob, Nat.le_of_ble_eq_true rfl, ⟨rfl, rfl⟩, ?_⟩
      conv => whnf
      exact k9
  have e17 := H.2.2
  refine hgo [30] 60 _ _ _ _ _ _ _ ?_
  conv => whnf
  refine ⟨_, H.ob, ?_⟩
  refine S_X7_next hC H hT hs ?_
  conv => whnf
  refine ⟨_, H.ob, _, rfl, ?_⟩
  conv => whnf
  rw [e17]
  unfold zrD at H1
  cases hw : p.1 with
  | true =>
    rw [hw] at H1
    have k9 := tl true H1
    refine ⟨fun _ => ?_, fun z => absurd z (by decide)⟩
    conv => whnf
    exact k9
  | false =>
    rw [hw] at H1
    refine ⟨fun z => absurd rfl z, fun _ => ?_⟩
    conv => whnf
    refine S_X7_in hC (fun a b => ?_) (fun a => ?_)
    · rw [decide_eq_true (show 0 ≤ zrV A.2.2 p from a), decide_eq_true (show zrV A.2.2 p ≤ x from b)] at H1
      have k9 := tl false H1
      conv => whnf
      refine ⟨fun _ => ?_, fun z => absurd z (by decide)⟩
      conv => whnf
      exact k9
    · have hb : (decide (0 ≤ zrV A.2.2 p) && decide (zrV A.2.2 p ≤ x)) = false := by
        rcases a with z | z
        · rw [decide_eq_false (fun y => Int32.not_le.mpr (show zrV A.2.2 p < 0 from z) y)]
          rfl
        · rw [decide_eq_false (fun y => Int32.not_le.mpr (show x < zrV A.2.2 p from z) y), Bool.and_false]
      rw [hb] at H1
      have k9 := tl true H1
      conv => whnf
      refine ⟨fun z => absurd rfl z, fun _ => ?_⟩
      conv => whnf
      exact k9
set_option maxRecDepth 100000 in
theorem S_X7_number {C : zK} (hC : zCld 215 zTT C) {h : zH} {n : Nat} {K : zQ} {r : Nat} {c : Nat → Int32} {A : zA} {p : Bool × Nat} {x : Int32} (H : zPr h r c A p) (hT : A.2.2.length ≤ 60) (hs : p.2 ≤ 900) (H1 : ∀ h' c', zPr h' r c' A (zrNp A.2.2 x p) → zPk c c' → zOff r (r + 1) h h' → K 0 (some (.int (zrNv A.2.2 x p))) h' n) : C 183 [.ref r, .int x] h n K := by
  have hle := zrD_le (T := A.2.2) (x := 9) (p := p)
  refine zd_X7_number hC rfl fun P hgo hF => ?_
  refine hgo [50, 62] 60 _ _ _ _ _ _ _ ?_
  conv => whnf
  refine ⟨_, H.ob, ?_⟩
  refine S_X7_digit hC H hT (by omega) (fun h2 c2 H2 k2 o2 => ?_)
  have b1 := H2.ob
  have e16 := H2.2.1
  have e17 := H2.2.2
  have no : zrNb A.2.2 x p = false → P 62 [some (.ref r), some (.int x), some (.int (zrV A.2.2 p)), some (.int (zr2 A.2.2 p))] [] h2 n 0 0 := by
    intro hb
    unfold zrNp zrNv at H1
    rw [hb] at H1
    refine hgo [] 20 _ _ _ _ _ _ _ ?_
    conv => whnf
    exact H1 h2 c2 H2 k2 o2
  have yes : zrNb A.2.2 x p = true → P 50 [some (.ref r), some (.int x), some (.int (zrV A.2.2 p)), some (.int (zr2 A.2.2 p))] [] h2 n 0 0 := by
    intro hb
    unfold zrNp zrNv at H1
    rw [hb] at H1
    have H3 : zYc (zupd h2 r (zRO r (upd c2 16 (nI (zrD A.2.2 9 p).2 + 1)))) r (upd c2 16 (nI (zrD A.2.2 9 p).2 + 1)) A := H2.1.fld (upd_n (by decide)) (upd_n (by decide))
    have k9 := H1 _ _ ⟨H3, upd_s.trans (nI_1 _), (upd_n (by decide)).trans e17⟩ (k2.tr (fun j z1 _ => upd_n z1)) (o2.tr (zOff.up (Nat.le_refl _) (by omega)))
    refine hgo [] 40 _ _ _ _ _ _ _ ?_
    conv => whnf
    refine ⟨_, b1, _, rfl, ?_⟩
    conv => whnf
    rw [e16]
    refine ⟨_, b1, Nat.le_of_ble_eq_true rfl, ⟨rfl, rfl⟩, ?_⟩
    conv => whnf
    exact k9
  unfold zrNb at no yes
  conv => whnf
  refine ⟨_, b1, ?_⟩
  refine S_X7_next hC H2 hT (by omega) ?_
  conv => whnf
  refine ⟨_, b1, _, rfl, ?_⟩
  conv => whnf
  rw [e17]
  cases hw : (zrD A.2.2 9 p).1 with
  | true =>
    rw [hw] at no
    have k9 := no rfl
    refine ⟨fun _ => ?_, fun z => absurd z (by decide)⟩
    conv => whnf
    exact k9
  | false =>
    rw [hw] at no yes
    refine ⟨fun z => absurd rfl z, fun _ => ?_⟩
    conv => whnf
    refine ⟨fun q => ?_, fun q => ?_⟩
    · rw [decide_eq_false (Int32.not_lt.mpr (show zrV A.2.2 p ≤ 0 from q))] at no
      have k9 := no rfl
      conv => whnf
      exact k9
    · rw [decide_eq_true (Int32.not_le.mp (show ¬ zrV A.2.2 p ≤ 0 from q))] at no yes
      conv => whnf
      refine ⟨_, b1, ?_⟩
      refine S_X7_next hC H2 hT (by omega) ?_
      conv => whnf
      refine S_X7_in hC (fun a b => ?_) (fun a => ?_)
      · rw [decide_eq_true a, decide_eq_true b] at no yes
        conv => whnf
        refine ⟨fun z => absurd z (by decide), fun _ => ?_⟩
        conv => whnf
        refine ⟨fun q2 => ?_, fun q2 => ?_⟩
        · rw [decide_eq_false (Int32.not_le.mpr (show x < zr2 A.2.2 p from q2))] at no
          have k9 := no rfl
          conv => whnf
          exact k9
        · rw [decide_eq_true (Int32.not_lt.mp (show ¬ x < zr2 A.2.2 p from q2))] at yes
          have k9 := yes rfl
          conv => whnf
          exact k9
      · have hb : (decide (48 ≤ zN A.2.2 (zrD A.2.2 9 p).2) && decide (zN A.2.2 (zrD A.2.2 9 p).2 ≤ 57)) = false := by
          rcases a with z | z
          · rw [decide_eq_false (Int32.not_le.mpr z)]
            rfl
          · rw [decide_eq_false (Int32.not_le.mpr z), Bool.and_false]
        rw [hb] at no
        have k9 := no rfl
        conv => whnf
        refine ⟨fun _ => ?_, fun z => absurd rfl z⟩
        conv => whnf
        exact k9

