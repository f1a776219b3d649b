/-! The law's helpers -/
theorem zX.of8 {h : zH} {A : zA} {x : zC} (H : zX h A) {a : Nat} (ha : 96 ≤ a) : zX (zupd h a x) A := H.off (lo := a) (hi := a + 1) (zOff.up (Nat.le_refl _) (Nat.lt_succ_self _)) ha
theorem zoC_1 {r : Nat × zS × Int32} {A : zA} : (zoC r A).1 = r.1 := by
  unfold zoC
  by_cases c : r.1 = 0
  · rw [if_pos c, c]
  · rw [if_neg c]
theorem zb_zcA {c : Int32} {σ : zS} : (zcA c σ).1 ≤ 2 := by
  unfold zcA
  repeat (first | exact Nat.le_of_ble_eq_true rfl | split)
theorem zb_zcE {d p c : Int32} {σ : zS} : (zcE d p c σ).1 ≤ 2 := by
  unfold zcE
  repeat (first | exact Nat.le_of_ble_eq_true rfl | split)
theorem zb_zcM {d p c : Int32} {σ : zS} : (zcM d p c σ).1 ≤ 1 := by
  unfold zcM
  repeat (first | exact Nat.le_of_ble_eq_true rfl | split)
theorem zb_zcI {d p c : Int32} {σ : zS} : (zcI d p c σ).1 ≤ 3 := by
  unfold zcI
  repeat (first | exact Nat.le_of_ble_eq_true rfl | split)
theorem zb_zcR {d p : Int32} {σ : zS} : (zcR d p σ).1 ≤ 1 := by
  unfold zcR
  repeat (first | exact Nat.le_of_ble_eq_true rfl | split)
theorem zb_zcC {d p : Int32} {σ : zS} : (zcC d p σ).1 ≤ 2 := by
  unfold zcC
  repeat (first | exact Nat.le_of_ble_eq_true rfl | split)
theorem zb_zcP {d : Int32} {σ : zS} : (zcP d σ).1 ≤ 1 := by
  unfold zcP
  repeat (first | exact Nat.le_of_ble_eq_true rfl | split)
theorem zb_zcT {σ : zS} : (zcT σ).1 ≤ 1 := by
  unfold zcT
  repeat (first | exact Nat.le_of_ble_eq_true rfl | split)
theorem zb_zoU {A : zA} : (zoU A).1 ≤ 1 := by
  unfold zoU
  repeat (first | exact Nat.le_of_ble_eq_true rfl | split)
theorem zb_zoA {c : Int32} {A : zA} : (zoA c A).1 ≤ 2 := by
  unfold zoA
  repeat (first | exact Nat.le_of_ble_eq_true rfl | split)
theorem zb_zoR {A : zA} : (zoR A).1 ≤ 1 := by
  unfold zoR
  repeat (first | exact Nat.le_of_ble_eq_true rfl | split)
set_option maxRecDepth 100000 in
theorem S_L_addBase {C : zK} (hC : zCld 215 zTT C) {h : zH} {n : Nat} {K : zQ} {A : zA} {of : Nat → Int64} (H : zX h A) (ho : h 108 = .inl (2, 1, .inr (.inl of))) {c : Int32} (H1 : ∀ h' of', zX h' (zoC (zcA c A.1) A).2.1 → h' 108 = .inl (2, 1, .inr (.inl of')) → (∀ a, 96 ≤ a → a ≠ 108 → h' a = h a) → ((zoC (zcA c A.1) A).1 = 0 → of' 0 = (zoC (zcA c A.1) A).2.2.toInt64) → K 0 (some (.int (nI (zoC (zcA c A.1) A).1))) h' n) : C 194 [.ref 0, .int c, .ref 108] h n K := by
  have hb : (zoC (zcA c A.1) A).1 ≤ 2 := zoC_1 ▸ zb_zcA
  refine zd_L_addBase hC rfl fun P hgo hF => ?_
  refine hgo [] 40 _ _ _ _ _ _ _ ?_
  conv => whnf
  refine ⟨rfl, _, H.1, ?_⟩
  refine S_X6_addBase hC H (fun h2 H2 o2 => ?_)
  have x8 := (o2 108 (by omega)).trans ho
  have fr : ∀ a, 96 ≤ a → h2 a = h a := fun a ha => o2 a (by omega)
  generalize (zoC (zcA c A.1) A).1 = k at H1 hb ⊢
  generalize (zoC (zcA c A.1) A).2.2 = v at H1 ⊢
  generalize (zoC (zcA c A.1) A).2.1 = A2 at H1 H2
  rcases (by omega : k = 0 ∨ k = 1 ∨ k = 2) with e | e | e
  · rw [e] at H1 ⊢
    conv => whnf
    refine ⟨_, _, x8, vp_in_nI (n := 0) (by decide) (by decide), ?_⟩
    rw [show (0 : Int32).toNatClampNeg = 0 by decide]
    conv => whnf
    exact H1 _ _ (H2.of8 (by decide)) zupd_s (fun a z1 z2 => (zupd_n z2).trans (fr a z1)) (fun _ => pk_uLs)
  · rw [e] at H1 ⊢
    conv => whnf
    exact H1 h2 of H2 x8 (fun a z1 _ => fr a z1) (fun z => absurd z (by decide))
  · rw [e] at H1 ⊢
    conv => whnf
    exact H1 h2 of H2 x8 (fun a z1 _ => fr a z1) (fun z => absurd z (by decide))
set_option maxRecDepth 100000 in
theorem S_L_edit {C : zK} (hC : zCld 215 zTT C) {h : zH} {n : Nat} {K : zQ} {A : zA} {of : Nat → Int64} (H : zX h A) (ho : h 108 = .inl (2, 1, .inr (.inl of))) {d p c : Int32} (H1 : ∀ h' of', zX h' (zoC (zcE d p c A.1) A).2.1 → h' 108 = .inl (2, 1, .inr (.inl of')) → (∀ a, 96 ≤ a → a ≠ 108 → h' a = h a) → ((zoC (zcE d p c A.1) A).1 = 0 → of' 0 = (zoC (zcE d p c A.1) A).2.2.toInt64) → K 0 (some (.int (nI (zoC (zcE d p c A.1) A).1))) h' n) : C 195 [.ref 0, .int d, .int p, .int c, .ref 108] h n K := by
  have hb : (zoC (zcE d p c A.1) A).1 ≤ 2 := zoC_1 ▸ zb_zcE
  refine zd_L_edit hC rfl fun P hgo hF => ?_
  refine hgo [] 40 _ _ _ _ _ _ _ ?_
  conv => whnf
  refine ⟨rfl, _, H.1, ?_⟩
  refine S_X6_edit hC H (fun h2 H2 o2 => ?_)
  have x8 := (o2 108 (by omega)).trans ho
  have fr : ∀ a, 96 ≤ a → h2 a = h a := fun a ha => o2 a (by omega)
  generalize (zoC (zcE d p c A.1) A).1 = k at H1 hb ⊢
  generalize (zoC (zcE d p c A.1) A).2.2 = v at H1 ⊢
  generalize (zoC (zcE d p c A.1) A).2.1 = A2 at H1 H2
  rcases (by omega : k = 0 ∨ k = 1 ∨ k = 2) with e | e | e
  · rw [e] at H1 ⊢
    conv => whnf
    refine ⟨_, _, x8, vp_in_nI (n := 0) (by decide) (by decide), ?_⟩
    rw [show (0 : Int32).toNatClampNeg = 0 by decide]
    conv => whnf
    exact H1 _ _ (H2.of8 (by decide)) zupd_s (fun a z1 z2 => (zupd_n z2).trans (fr a z1)) (fun _ => pk_uLs)
  · rw [e] at H1 ⊢
    conv => whnf
    exact H1 h2 of H2 x8 (fun a z1 _ => fr a z1) (fun z => absurd z (by decide))
  · rw [e] at H1 ⊢
    conv => whnf
    exact H1 h2 of H2 x8 (fun a z1 _ => fr a z1) (fun z => absurd z (by decide))
set_option maxRecDepth 100000 in
theorem S_L_move {C : zK} (hC : zCld 215 zTT C) {h : zH} {n : Nat} {K : zQ} {A : zA} {of : Nat → Int64} (H : zX h A) (ho : h 108 = .inl (2, 1, .inr (.inl of))) {d p c : Int32} (H1 : ∀ h' of', zX h' (zoC (zcM d p c A.1) A).2.1 → h' 108 = .inl (2, 1, .inr (.inl of')) → (∀ a, 96 ≤ a → a ≠ 108 → h' a = h a) → ((zoC (zcM d p c A.1) A).1 = 0 → of' 0 = (zoC (zcM d p c A.1) A).2.2.toInt64) → K 0 (some (.int (nI (zoC (zcM d p c A.1) A).1))) h' n) : C 196 [.ref 0, .int d, .int p, .int c, .ref 108] h n K := by
  have hb : (zoC (zcM d p c A.1) A).1 ≤ 1 := zoC_1 ▸ zb_zcM
  refine zd_L_move hC rfl fun P hgo hF => ?_
  refine hgo [] 40 _ _ _ _ _ _ _ ?_
  conv => whnf
  refine ⟨rfl, _, H.1, ?_⟩
  refine S_X6_move hC H (fun h2 H2 o2 => ?_)
  have x8 := (o2 108 (by omega)).trans ho
  have fr : ∀ a, 96 ≤ a → h2 a = h a := fun a ha => o2 a (by omega)
  generalize (zoC (zcM d p c A.1) A).1 = k at H1 hb ⊢
  generalize (zoC (zcM d p c A.1) A).2.2 = v at H1 ⊢
  generalize (zoC (zcM d p c A.1) A).2.1 = A2 at H1 H2
  rcases (by omega : k = 0 ∨ k = 1) with e | e
  · rw [e] at H1 ⊢
    conv => whnf
    refine ⟨_, _, x8, vp_in_nI (n := 0) (by decide) (by decide), ?_⟩
    rw [show (0 : Int32).toNatClampNeg = 0 by decide]
    conv => whnf
    exact H1 _ _ (H2.of8 (by decide)) zupd_s (fun a z1 z2 => (zupd_n z2).trans (fr a z1)) (fun _ => pk_uLs)
  · rw [e] at H1 ⊢
    conv => whnf
    exact H1 h2 of H2 x8 (fun a z1 _ => fr a z1) (fun z => absurd z (by decide))
set_option maxRecDepth 100000 in
theorem S_L_insert {C : zK} (hC : zCld 215 zTT C) {h : zH} {n : Nat} {K : zQ} {A : zA} {of : Nat → Int64} (H : zX h A) (ho : h 108 = .inl (2, 1, .inr (.inl of))) {d p c : Int32} (H1 : ∀ h' of', zX h' (zoC (zcI d p c A.1) A).2.1 → h' 108 = .inl (2, 1, .inr (.inl of')) → (∀ a, 96 ≤ a → a ≠ 108 → h' a = h a) → ((zoC (zcI d p c A.1) A).1 = 0 → of' 0 = (zoC (zcI d p c A.1) A).2.2.toInt64) → K 0 (some (.int (nI (zoC (zcI d p c A.1) A).1))) h' n) : C 197 [.ref 0, .int d, .int p, .int c, .ref 108] h n K := by
  have hb : (zoC (zcI d p c A.1) A).1 ≤ 3 := zoC_1 ▸ zb_zcI
  refine zd_L_insert hC rfl fun P hgo hF => ?_
  refine hgo [] 40 _ _ _ _ _ _ _ ?_
  conv => whnf
  refine ⟨rfl, _, H.1, ?_⟩
  refine S_X6_insert hC H (fun h2 H2 o2 => ?_)
  have x8 := (o2 108 (by omega)).trans ho
  have fr : ∀ a, 96 ≤ a → h2 a = h a := fun a ha => o2 a (by omega)
  generalize (zoC (zcI d p c A.1) A).1 = k at H1 hb ⊢
  generalize (zoC (zcI d p c A.1) A).2.2 = v at H1 ⊢
  generalize (zoC (zcI d p c A.1) A).2.1 = A2 at H1 H2
  rcases (by omega : k = 0 ∨ k = 1 ∨ k = 2 ∨ k = 3) with e | e | e | e
  · rw [e] at H1 ⊢
    conv => whnf
    refine ⟨_, _, x8, vp_in_nI (n := 0) (by decide) (by decide), ?_⟩
    rw [show (0 : Int32).toNatClampNeg = 0 by decide]
    conv => whnf
    exact H1 _ _ (H2.of8 (by decide)) zupd_s (fun a z1 z2 => (zupd_n z2).trans (fr a z1)) (fun _ => pk_uLs)
  · rw [e] at H1 ⊢
    conv => whnf
    exact H1 h2 of H2 x8 (fun a z1 _ => fr a z1) (fun z => absurd z (by decide))
  · rw [e] at H1 ⊢
    conv => whnf
    exact H1 h2 of H2 x8 (fun a z1 _ => fr a z1) (fun z => absurd z (by decide))
  · rw [e] at H1 ⊢
    conv => whnf
    exact H1 h2 of H2 x8 (fun a z1 _ => fr a z1) (fun z => absurd z (by decide))
set_option maxRecDepth 100000 in
theorem S_L_remove {C : zK} (hC : zCld 215 zTT C) {h : zH} {n : Nat} {K : zQ} {A : zA} {of : Nat → Int64} (H : zX h A) (ho : h 108 = .inl (2, 1, .inr (.inl of))) {d p : Int32} (H1 : ∀ h' of', zX h' (zoC (zcR d p A.1) A).2.1 → h' 108 = .inl (2, 1, .inr (.inl of')) → (∀ a, 96 ≤ a → a ≠ 108 → h' a = h a) → ((zoC (zcR d p A.1) A).1 = 0 → of' 0 = (zoC (zcR d p A.1) A).2.2.toInt64) → K 0 (some (.int (nI (zoC (zcR d p A.1) A).1))) h' n) : C 198 [.ref 0, .int d, .int p, .ref 108] h n K := by
  have hb : (zoC (zcR d p A.1) A).1 ≤ 1 := zoC_1 ▸ zb_zcR
  refine zd_L_remove hC rfl fun P hgo hF => ?_
  refine hgo [] 40 _ _ _ _ _ _ _ ?_
  conv => whnf
  refine ⟨rfl, _, H.1, ?_⟩
  refine S_X6_remove hC H (fun h2 H2 o2 => ?_)
  have x8 := (o2 108 (by omega)).trans ho
  have fr : ∀ a, 96 ≤ a → h2 a = h a := fun a ha => o2 a (by omega)
  generalize (zoC (zcR d p A.1) A).1 = k at H1 hb ⊢
  generalize (zoC (zcR d p A.1) A).2.2 = v at H1 ⊢
  generalize (zoC (zcR d p A.1) A).2.1 = A2 at H1 H2
  rcases (by omega : k = 0 ∨ k = 1) with e | e
  · rw [e] at H1 ⊢
    conv => whnf
    refine ⟨_, _, x8, vp_in_nI (n := 0) (by decide) (by decide), ?_⟩
    rw [show (0 : Int32).toNatClampNeg = 0 by decide]
    conv => whnf
    exact H1 _ _ (H2.of8 (by decide)) zupd_s (fun a z1 z2 => (zupd_n z2).trans (fr a z1)) (fun _ => pk_uLs)
  · rw [e] at H1 ⊢
    conv => whnf
    exact H1 h2 of H2 x8 (fun a z1 _ => fr a z1) (fun z => absurd z (by decide))
set_option maxRecDepth 100000 in
theorem S_L_choose {C : zK} (hC : zCld 215 zTT C) {h : zH} {n : Nat} {K : zQ} {A : zA} {of : Nat → Int64} (H : zX h A) (ho : h 108 = .inl (2, 1, .inr (.inl of))) {p d : Int32} (H1 : ∀ h' of', zX h' (zoC (zcC p d A.1) A).2.1 → h' 108 = .inl (2, 1, .inr (.inl of')) → (∀ a, 96 ≤ a → a ≠ 108 → h' a = h a) → ((zoC (zcC p d A.1) A).1 = 0 → of' 0 = (zoC (zcC p d A.1) A).2.2.toInt64) → K 0 (some (.int (nI (zoC (zcC p d A.1) A).1))) h' n) : C 208 [.ref 0, .int p, .int d, .ref 108] h n K := by
  have hb : (zoC (zcC p d A.1) A).1 ≤ 2 := zoC_1 ▸ zb_zcC
  refine zd_L_choose hC rfl fun P hgo hF => ?_
  refine hgo [] 40 _ _ _ _ _ _ _ ?_
  conv => whnf
  refine ⟨rfl, _, H.1, ?_⟩
  refine S_X6_choose hC H (fun h2 H2 o2 => ?_)
  have x8 := (o2 108 (by omega)).trans ho
  have fr : ∀ a, 96 ≤ a → h2 a = h a := fun a ha => o2 a (by omega)
  generalize (zoC (zcC p d A.1) A).1 = k at H1 hb ⊢
  generalize (zoC (zcC p d A.1) A).2.2 = v at H1 ⊢
  generalize (zoC (zcC p d A.1) A).2.1 = A2 at H1 H2
  rcases (by omega : k = 0 ∨ k = 1 ∨ k = 2) with e | e | e
  · rw [e] at H1 ⊢
    conv => whnf
    refine ⟨_, _, x8, vp_in_nI (n := 0) (by decide) (by decide), ?_⟩
    rw [show (0 : Int32).toNatClampNeg = 0 by decide]
    conv => whnf
    exact H1 _ _ (H2.of8 (by decide)) zupd_s (fun a z1 z2 => (zupd_n z2).trans (fr a z1)) (fun _ => pk_uLs)
  · rw [e] at H1 ⊢
    conv => whnf
    exact H1 h2 of H2 x8 (fun a z1 _ => fr a z1) (fun z => absurd z (by decide))
  · rw [e] at H1 ⊢
    conv => whnf
    exact H1 h2 of H2 x8 (fun a z1 _ => fr a z1) (fun z => absurd z (by decide))
set_option maxRecDepth 100000 in
theorem S_L_prefer {C : zK} (hC : zCld 215 zTT C) {h : zH} {n : Nat} {K : zQ} {A : zA} {of : Nat → Int64} (H : zX h A) (ho : h 108 = .inl (2, 1, .inr (.inl of))) {d : Int32} (H1 : ∀ h' of', zX h' (zoC (zcP d A.1) A).2.1 → h' 108 = .inl (2, 1, .inr (.inl of')) → (∀ a, 96 ≤ a → a ≠ 108 → h' a = h a) → ((zoC (zcP d A.1) A).1 = 0 → of' 0 = (zoC (zcP d A.1) A).2.2.toInt64) → K 0 (some (.int (nI (zoC (zcP d A.1) A).1))) h' n) : C 209 [.ref 0, .int d, .ref 108] h n K := by
  have hb : (zoC (zcP d A.1) A).1 ≤ 1 := zoC_1 ▸ zb_zcP
  refine zd_L_prefer hC rfl fun P hgo hF => ?_
  refine hgo [] 40 _ _ _ _ _ _ _ ?_
  conv => whnf
  refine ⟨rfl, _, H.1, ?_⟩
  refine S_X6_prefer hC H (fun h2 H2 o2 => ?_)
  have x8 := (o2 108 (by omega)).trans ho
  have fr : ∀ a, 96 ≤ a → h2 a = h a := fun a ha => o2 a (by omega)
  generalize (zoC (zcP d A.1) A).1 = k at H1 hb ⊢
  generalize (zoC (zcP d A.1) A).2.2 = v at H1 ⊢
  generalize (zoC (zcP d A.1) A).2.1 = A2 at H1 H2
  rcases (by omega : k = 0 ∨ k = 1) with e | e
  · rw [e] at H1 ⊢
    conv => whnf
    refine ⟨_, _, x8, vp_in_nI (n := 0) (by decide) (by decide), ?_⟩
    rw [show (0 : Int32).toNatClampNeg = 0 by decide]
    conv => whnf
    exact H1 _ _ (H2.of8 (by decide)) zupd_s (fun a z1 z2 => (zupd_n z2).trans (fr a z1)) (fun _ => pk_uLs)
  · rw [e] at H1 ⊢
    conv => whnf
    exact H1 h2 of H2 x8 (fun a z1 _ => fr a z1) (fun z => absurd z (by decide))
set_option maxRecDepth 100000 in
theorem S_L_accept {C : zK} (hC : zCld 215 zTT C) {h : zH} {n : Nat} {K : zQ} {A : zA} {of : Nat → Int64} (H : zX h A) (ho : h 108 = .inl (2, 1, .inr (.inl of))) (H1 : ∀ h' of', zX h' (zoC (zcT A.1) A).2.1 → h' 108 = .inl (2, 1, .inr (.inl of')) → (∀ a, 96 ≤ a → a ≠ 108 → h' a = h a) → ((zoC (zcT A.1) A).1 = 0 → of' 0 = (zoC (zcT A.1) A).2.2.toInt64) → K 0 (some (.int (nI (zoC (zcT A.1) A).1))) h' n) : C 210 [.ref 0, .ref 108] h n K := by
  have hb : (zoC (zcT A.1) A).1 ≤ 1 := zoC_1 ▸ zb_zcT
  refine zd_L_accept hC rfl fun P hgo hF => ?_
  refine hgo [] 40 _ _ _ _ _ _ _ ?_
  conv => whnf
  refine ⟨rfl, _, H.1, ?_⟩
  refine S_X6_accept hC H (fun h2 H2 o2 => ?_)
  have x8 := (o2 108 (by omega)).trans ho
  have fr : ∀ a, 96 ≤ a → h2 a = h a := fun a ha => o2 a (by omega)
  generalize (zoC (zcT A.1) A).1 = k at H1 hb ⊢
  generalize (zoC (zcT A.1) A).2.2 = v at H1 ⊢
  generalize (zoC (zcT A.1) A).2.1 = A2 at H1 H2
  rcases (by omega : k = 0 ∨ k = 1) with e | e
  · rw [e] at H1 ⊢
    conv => whnf
    refine ⟨_, _, x8, vp_in_nI (n := 0) (by decide) (by decide), ?_⟩
    rw [show (0 : Int32).toNatClampNeg = 0 by decide]
    conv => whnf
    exact H1 _ _ (H2.of8 (by decide)) zupd_s (fun a z1 z2 => (zupd_n z2).trans (fr a z1)) (fun _ => pk_uLs)
  · rw [e] at H1 ⊢
    conv => whnf
    exact H1 h2 of H2 x8 (fun a z1 _ => fr a z1) (fun z => absurd z (by decide))
set_option maxRecDepth 100000 in
theorem S_L_append {C : zK} (hC : zCld 215 zTT C) {h : zH} {n : Nat} {K : zQ} {A : zA} {of : Nat → Int64} (H : zX h A) (ho : h 108 = .inl (2, 1, .inr (.inl of))) {c : Int32} (H1 : ∀ h' of', zX h' (zoA c A).2.1 → h' 108 = .inl (2, 1, .inr (.inl of')) → (∀ a, 96 ≤ a → a ≠ 108 → h' a = h a) → ((zoA c A).1 = 0 → of' 0 = (zoA c A).2.2.toInt64) → K 0 (some (.int (nI (zoA c A).1))) h' n) : C 212 [.ref 0, .int c, .ref 108] h n K := by
  have hb : (zoA c A).1 ≤ 2 := zb_zoA
  refine zd_L_append hC rfl fun P hgo hF => ?_
  refine hgo [] 40 _ _ _ _ _ _ _ ?_
  conv => whnf
  refine ⟨rfl, _, H.1, ?_⟩
  refine S_X6_append hC H (fun h2 H2 o2 => ?_)
  have x8 := (o2 108 (by omega)).trans ho
  have fr : ∀ a, 96 ≤ a → h2 a = h a := fun a ha => o2 a (by omega)
  generalize (zoA c A).1 = k at H1 hb ⊢
  generalize (zoA c A).2.2 = v at H1 ⊢
  generalize (zoA c A).2.1 = A2 at H1 H2
  rcases (by omega : k = 0 ∨ k = 1 ∨ k = 2) with e | e | e
  · rw [e] at H1 ⊢
    conv => whnf
    refine ⟨_, _, x8, vp_in_nI (n := 0) (by decide) (by decide), ?_⟩
    rw [show (0 : Int32).toNatClampNeg = 0 by decide]
    conv => whnf
    exact H1 _ _ (H2.of8 (by decide)) zupd_s (fun a z1 z2 => (zupd_n z2).trans (fr a z1)) (fun _ => pk_uLs)
  · rw [e] at H1 ⊢
    conv => whnf
    exact H1 h2 of H2 x8 (fun a z1 _ => fr a z1) (fun z => absurd z (by decide))
  · rw [e] at H1 ⊢
    conv => whnf
    exact H1 h2 of H2 x8 (fun a z1 _ => fr a z1) (fun z => absurd z (by decide))
set_option maxRecDepth 100000 in
theorem S_L_run {C : zK} (hC : zCld 215 zTT C) {h : zH} {n : Nat} {K : zQ} {A : zA} {of : Nat → Int64} (H : zX h A) (ho : h 108 = .inl (2, 1, .inr (.inl of))) (H1 : ∀ h' of', zX h' (zoR A).2.1 → h' 108 = .inl (2, 1, .inr (.inl of')) → (∀ a, 96 ≤ a → a ≠ 108 → h' a = h a) → ((zoR A).1 = 0 → of' 0 = (zoR A).2.2.toInt64) → K 0 (some (.int (nI (zoR A).1))) h' n) : C 213 [.ref 0, .ref 108] h n K := by
  have hb : (zoR A).1 ≤ 1 := zb_zoR
  refine zd_L_run hC rfl fun P hgo hF => ?_
  refine hgo [] 40 _ _ _ _ _ _ _ ?_
  conv => whnf
  refine ⟨rfl, _, H.1, ?_⟩
  refine S_X6_run hC H (fun h2 H2 o2 => ?_)
  have x8 := (o2 108 (by omega)).trans ho
  have fr : ∀ a, 96 ≤ a → h2 a = h a := fun a ha => o2 a (by omega)
  generalize (zoR A).1 = k at H1 hb ⊢
  generalize (zoR A).2.2 = v at H1 ⊢
  generalize (zoR A).2.1 = A2 at H1 H2
  rcases (by omega : k = 0 ∨ k = 1) with e | e
  · rw [e] at H1 ⊢
    conv => whnf
    refine ⟨_, _, x8, vp_in_nI (n := 0) (by decide) (by decide), ?_⟩
    rw [show (0 : Int32).toNatClampNeg = 0 by decide]
    conv => whnf
    exact H1 _ _ (H2.of8 (by decide)) zupd_s (fun a z1 z2 => (zupd_n z2).trans (fr a z1)) (fun _ => pk_uLs)
  · rw [e] at H1 ⊢
    conv => whnf
    exact H1 h2 of H2 x8 (fun a z1 _ => fr a z1) (fun z => absurd z (by decide))
set_option maxRecDepth 100000 in
theorem S_L_undo {C : zK} (hC : zCld 215 zTT C) {h : zH} {n : Nat} {K : zQ} {A : zA} {of : Nat → Int64} (H : zX h A) (ho : h 108 = .inl (2, 1, .inr (.inl of))) (H1 : ∀ h' of', zX h' (zoU A).2.1 → h' 108 = .inl (2, 1, .inr (.inl of')) → (∀ a, 96 ≤ a → a ≠ 108 → h' a = h a) → ((zoU A).1 = 0 → of' 0 = (zoU A).2.2.toInt64) → K 0 (some (.int (nI (zoU A).1))) h' n) : C 214 [.ref 0, .ref 108] h n K := by
  have hb : (zoU A).1 ≤ 1 := zb_zoU
  refine zd_L_undo hC rfl fun P hgo hF => ?_
  refine hgo [] 40 _ _ _ _ _ _ _ ?_
  conv => whnf
  refine ⟨rfl, _, H.1, ?_⟩
  refine S_X6_undo hC H (fun h2 H2 o2 => ?_)
  have x8 := (o2 108 (by omega)).trans ho
  have fr : ∀ a, 96 ≤ a → h2 a = h a := fun a ha => o2 a (by omega)
  generalize (zoU A).1 = k at H1 hb ⊢
  generalize (zoU A).2.2 = v at H1 ⊢
  generalize (zoU A).2.1 = A2 at H1 H2
  rcases (by omega : k = 0 ∨ k = 1) with e | e
  · rw [e] at H1 ⊢
    conv => whnf
    refine ⟨_, _, x8, vp_in_nI (n := 0) (by decide) (by decide), ?_⟩
    rw [show (0 : Int32).toNatClampNeg = 0 by decide]
    conv => whnf
    exact H1 _ _ (H2.of8 (by decide)) zupd_s (fun a z1 z2 => (zupd_n z2).trans (fr a z1)) (fun _ => pk_uLs)
  · rw [e] at H1 ⊢
    conv => whnf
    exact H1 h2 of H2 x8 (fun a z1 _ => fr a z1) (fun z => absurd z (by decide))
set_option maxRecDepth 100000 in
theorem S_L_size {C : zK} (hC : zCld 215 zTT C) {h : zH} {n : Nat} {K : zQ} {A : zA} {of : Nat → Int64} (H : zX h A) (ho : h 108 = .inl (2, 1, .inr (.inl of))) {d : Int32} (H1 : ∀ h' of', zX h' A → h' 108 = .inl (2, 1, .inr (.inl of')) → (∀ a, 96 ≤ a → a ≠ 108 → h' a = h a) → (zgk (zgS d A.1) = 0 → of' 0 = (zgv (zgS d A.1)).toInt64) → K 0 (some (.int (nI (zgk (zgS d A.1))))) h' n) : C 199 [.ref 0, .int d, .ref 108] h n K := by
  refine zd_L_size hC rfl fun P hgo hF => ?_
  refine hgo [] 40 _ _ _ _ _ _ _ ?_
  conv => whnf
  refine ⟨rfl, _, H.1, ?_⟩
  refine S_X6_size hC H ?_
  have x8 := ho
  have fr : ∀ a, 96 ≤ a → h a = h a := fun a ha => rfl
  have H2 := H
  cases e : zgS d A.1 with
  | some v =>
    rw [e] at H1
    conv => whnf
    refine ⟨_, _, x8, vp_in_nI (n := 0) (by decide) (by decide), ?_⟩
    rw [show (0 : Int32).toNatClampNeg = 0 by decide]
    conv => whnf
    exact H1 _ _ (H2.of8 (by decide)) zupd_s (fun a z1 z2 => (zupd_n z2).trans (fr a z1)) (fun _ => pk_uLs)
  | none =>
    rw [e] at H1
    conv => whnf
    exact H1 h of H2 x8 (fun a z1 _ => fr a z1) (fun z => absurd z (show ¬ 1 = 0 by decide))
set_option maxRecDepth 100000 in
theorem S_L_block {C : zK} (hC : zCld 215 zTT C) {h : zH} {n : Nat} {K : zQ} {A : zA} {of : Nat → Int64} (H : zX h A) (ho : h 108 = .inl (2, 1, .inr (.inl of))) {d p : Int32} (H1 : ∀ h' of', zX h' A → h' 108 = .inl (2, 1, .inr (.inl of')) → (∀ a, 96 ≤ a → a ≠ 108 → h' a = h a) → (zgk (zgB d p A.1) = 0 → of' 0 = (zgv (zgB d p A.1)).toInt64) → K 0 (some (.int (nI (zgk (zgB d p A.1))))) h' n) : C 200 [.ref 0, .int d, .int p, .ref 108] h n K := by
  refine zd_L_block hC rfl fun P hgo hF => ?_
  refine hgo [] 40 _ _ _ _ _ _ _ ?_
  conv => whnf
  refine ⟨rfl, _, H.1, ?_⟩
  refine S_X6_block hC H ?_
  have x8 := ho
  have fr : ∀ a, 96 ≤ a → h a = h a := fun a ha => rfl
  have H2 := H
  cases e : zgB d p A.1 with
  | some v =>
    rw [e] at H1
    conv => whnf
    refine ⟨_, _, x8, vp_in_nI (n := 0) (by decide) (by decide), ?_⟩
    rw [show (0 : Int32).toNatClampNeg = 0 by decide]
    conv => whnf
    exact H1 _ _ (H2.of8 (by decide)) zupd_s (fun a z1 z2 => (zupd_n z2).trans (fr a z1)) (fun _ => pk_uLs)
  | none =>
    rw [e] at H1
    conv => whnf
    exact H1 h of H2 x8 (fun a z1 _ => fr a z1) (fun z => absurd z (show ¬ 1 = 0 by decide))
set_option maxRecDepth 100000 in
theorem S_L_content {C : zK} (hC : zCld 215 zTT C) {h : zH} {n : Nat} {K : zQ} {A : zA} {of : Nat → Int64} (H : zX h A) (ho : h 108 = .inl (2, 1, .inr (.inl of))) {d p : Int32} (H1 : ∀ h' of', zX h' A → h' 108 = .inl (2, 1, .inr (.inl of')) → (∀ a, 96 ≤ a → a ≠ 108 → h' a = h a) → (zgk (zgK d p A.1) = 0 → of' 0 = (zgv (zgK d p A.1)).toInt64) → K 0 (some (.int (nI (zgk (zgK d p A.1))))) h' n) : C 201 [.ref 0, .int d, .int p, .ref 108] h n K := by
  refine zd_L_content hC rfl fun P hgo hF => ?_
  refine hgo [] 40 _ _ _ _ _ _ _ ?_
  conv => whnf
  refine ⟨rfl, _, H.1, ?_⟩
  refine S_X6_content hC H ?_
  have x8 := ho
  have fr : ∀ a, 96 ≤ a → h a = h a := fun a ha => rfl
  have H2 := H
  cases e : zgK d p A.1 with
  | some v =>
    rw [e] at H1
    conv => whnf
    refine ⟨_, _, x8, vp_in_nI (n := 0) (by decide) (by decide), ?_⟩
    rw [show (0 : Int32).toNatClampNeg = 0 by decide]
    conv => whnf
    exact H1 _ _ (H2.of8 (by decide)) zupd_s (fun a z1 z2 => (zupd_n z2).trans (fr a z1)) (fun _ => pk_uLs)
  | none =>
    rw [e] at H1
    conv => whnf
    exact H1 h of H2 x8 (fun a z1 _ => fr a z1) (fun z => absurd z (show ¬ 1 = 0 by decide))
set_option maxRecDepth 100000 in
theorem S_L_change {C : zK} (hC : zCld 215 zTT C) {h : zH} {n : Nat} {K : zQ} {A : zA} {of : Nat → Int64} (H : zX h A) (ho : h 108 = .inl (2, 1, .inr (.inl of))) {d p : Int32} (H1 : ∀ h' of', zX h' A → h' 108 = .inl (2, 1, .inr (.inl of')) → (∀ a, 96 ≤ a → a ≠ 108 → h' a = h a) → (zgk (zgC d p A.1) = 0 → of' 0 = (zgv (zgC d p A.1)).toInt64) → K 0 (some (.int (nI (zgk (zgC d p A.1))))) h' n) : C 202 [.ref 0, .int d, .int p, .ref 108] h n K := by
  refine zd_L_change hC rfl fun P hgo hF => ?_
  refine hgo [] 40 _ _ _ _ _ _ _ ?_
  conv => whnf
  refine ⟨rfl, _, H.1, ?_⟩
  refine S_X6_change hC H (fun h2 H2 o2 => ?_)
  have x8 := (o2 108 (by omega)).trans ho
  have fr : ∀ a, 96 ≤ a → h2 a = h a := fun a ha => o2 a (by omega)
  cases e : zgC d p A.1 with
  | some v =>
    rw [e] at H1
    conv => whnf
    refine ⟨_, _, x8, vp_in_nI (n := 0) (by decide) (by decide), ?_⟩
    rw [show (0 : Int32).toNatClampNeg = 0 by decide]
    conv => whnf
    exact H1 _ _ (H2.of8 (by decide)) zupd_s (fun a z1 z2 => (zupd_n z2).trans (fr a z1)) (fun _ => pk_uLs)
  | none =>
    rw [e] at H1
    conv => whnf
    exact H1 h2 of H2 x8 (fun a z1 _ => fr a z1) (fun z => absurd z (show ¬ 1 = 0 by decide))
set_option maxRecDepth 100000 in
theorem S_L_moves {C : zK} (hC : zCld 215 zTT C) {h : zH} {n : Nat} {K : zQ} {A : zA} {of : Nat → Int64} (H : zX h A) (ho : h 108 = .inl (2, 1, .inr (.inl of))) {d : Int32} (H1 : ∀ h' of', zX h' A → h' 108 = .inl (2, 1, .inr (.inl of')) → (∀ a, 96 ≤ a → a ≠ 108 → h' a = h a) → (zgk (zgV d A.1) = 0 → of' 0 = (zgv (zgV d A.1)).toInt64) → K 0 (some (.int (nI (zgk (zgV d A.1))))) h' n) : C 203 [.ref 0, .int d, .ref 108] h n K := by
  refine zd_L_moves hC rfl fun P hgo hF => ?_
  refine hgo [] 40 _ _ _ _ _ _ _ ?_
  conv => whnf
  refine ⟨rfl, _, H.1, ?_⟩
  refine S_X6_moves hC H (fun h2 H2 o2 => ?_)
  have x8 := (o2 108 (by omega)).trans ho
  have fr : ∀ a, 96 ≤ a → h2 a = h a := fun a ha => o2 a (by omega)
  cases e : zgV d A.1 with
  | some v =>
    rw [e] at H1
    conv => whnf
    refine ⟨_, _, x8, vp_in_nI (n := 0) (by decide) (by decide), ?_⟩
    rw [show (0 : Int32).toNatClampNeg = 0 by decide]
    conv => whnf
    exact H1 _ _ (H2.of8 (by decide)) zupd_s (fun a z1 z2 => (zupd_n z2).trans (fr a z1)) (fun _ => pk_uLs)
  | none =>
    rw [e] at H1
    conv => whnf
    exact H1 h2 of H2 x8 (fun a z1 _ => fr a z1) (fun z => absurd z (show ¬ 1 = 0 by decide))
set_option maxRecDepth 100000 in
theorem S_L_mergedBlock {C : zK} (hC : zCld 215 zTT C) {h : zH} {n : Nat} {K : zQ} {A : zA} {of : Nat → Int64} (H : zX h A) (ho : h 108 = .inl (2, 1, .inr (.inl of))) {p : Int32} (H1 : ∀ h' of', zX h' A → h' 108 = .inl (2, 1, .inr (.inl of')) → (∀ a, 96 ≤ a → a ≠ 108 → h' a = h a) → (zgk (zgM p A.1) = 0 → of' 0 = (zgv (zgM p A.1)).toInt64) → K 0 (some (.int (nI (zgk (zgM p A.1))))) h' n) : C 204 [.ref 0, .int p, .ref 108] h n K := by
  refine zd_L_mergedBlock hC rfl fun P hgo hF => ?_
  refine hgo [] 40 _ _ _ _ _ _ _ ?_
  conv => whnf
  refine ⟨rfl, _, H.1, ?_⟩
  refine S_X6_mergedBlock hC H (fun h2 H2 o2 => ?_)
  have x8 := (o2 108 (by omega)).trans ho
  have fr : ∀ a, 96 ≤ a → h2 a = h a := fun a ha => o2 a (by omega)
  cases e : zgM p A.1 with
  | some v =>
    rw [e] at H1
    conv => whnf
    refine ⟨_, _, x8, vp_in_nI (n := 0) (by decide) (by decide), ?_⟩
    rw [show (0 : Int32).toNatClampNeg = 0 by decide]
    conv => whnf
    exact H1 _ _ (H2.of8 (by decide)) zupd_s (fun a z1 z2 => (zupd_n z2).trans (fr a z1)) (fun _ => pk_uLs)
  | none =>
    rw [e] at H1
    conv => whnf
    exact H1 h2 of H2 x8 (fun a z1 _ => fr a z1) (fun z => absurd z (show ¬ 1 = 0 by decide))
set_option maxRecDepth 100000 in
theorem S_L_mergedContent {C : zK} (hC : zCld 215 zTT C) {h : zH} {n : Nat} {K : zQ} {A : zA} {of : Nat → Int64} (H : zX h A) (ho : h 108 = .inl (2, 1, .inr (.inl of))) {p : Int32} (H1 : ∀ h' of', zX h' A → h' 108 = .inl (2, 1, .inr (.inl of')) → (∀ a, 96 ≤ a → a ≠ 108 → h' a = h a) → (zgk (zgN p A.1) = 0 → of' 0 = (zgv (zgN p A.1)).toInt64) → K 0 (some (.int (nI (zgk (zgN p A.1))))) h' n) : C 205 [.ref 0, .int p, .ref 108] h n K := by
  refine zd_L_mergedContent hC rfl fun P hgo hF => ?_
  refine hgo [] 40 _ _ _ _ _ _ _ ?_
  conv => whnf
  refine ⟨rfl, _, H.1, ?_⟩
  refine S_X6_mergedContent hC H (fun h2 H2 o2 => ?_)
  have x8 := (o2 108 (by omega)).trans ho
  have fr : ∀ a, 96 ≤ a → h2 a = h a := fun a ha => o2 a (by omega)
  cases e : zgN p A.1 with
  | some v =>
    rw [e] at H1
    conv => whnf
    refine ⟨_, _, x8, vp_in_nI (n := 0) (by decide) (by decide), ?_⟩
    rw [show (0 : Int32).toNatClampNeg = 0 by decide]
    conv => whnf
    exact H1 _ _ (H2.of8 (by decide)) zupd_s (fun a z1 z2 => (zupd_n z2).trans (fr a z1)) (fun _ => pk_uLs)
  | none =>
    rw [e] at H1
    conv => whnf
    exact H1 h2 of H2 x8 (fun a z1 _ => fr a z1) (fun z => absurd z (show ¬ 1 = 0 by decide))
set_option maxRecDepth 100000 in
theorem S_L_conflictBlock {C : zK} (hC : zCld 215 zTT C) {h : zH} {n : Nat} {K : zQ} {A : zA} {of : Nat → Int64} (H : zX h A) (ho : h 108 = .inl (2, 1, .inr (.inl of))) {p : Int32} (H1 : ∀ h' of', zX h' A → h' 108 = .inl (2, 1, .inr (.inl of')) → (∀ a, 96 ≤ a → a ≠ 108 → h' a = h a) → (zgk (zgF p A.1) = 0 → of' 0 = (zgv (zgF p A.1)).toInt64) → K 0 (some (.int (nI (zgk (zgF p A.1))))) h' n) : C 206 [.ref 0, .int p, .ref 108] h n K := by
  refine zd_L_conflictBlock hC rfl fun P hgo hF => ?_
  refine hgo [] 40 _ _ _ _ _ _ _ ?_
  conv => whnf
  refine ⟨rfl, _, H.1, ?_⟩
  refine S_X6_conflictBlock hC H (fun h2 H2 o2 => ?_)
  have x8 := (o2 108 (by omega)).trans ho
  have fr : ∀ a, 96 ≤ a → h2 a = h a := fun a ha => o2 a (by omega)
  cases e : zgF p A.1 with
  | some v =>
    rw [e] at H1
    conv => whnf
    refine ⟨_, _, x8, vp_in_nI (n := 0) (by decide) (by decide), ?_⟩
    rw [show (0 : Int32).toNatClampNeg = 0 by decide]
    conv => whnf
    exact H1 _ _ (H2.of8 (by decide)) zupd_s (fun a z1 z2 => (zupd_n z2).trans (fr a z1)) (fun _ => pk_uLs)
  | none =>
    rw [e] at H1
    conv => whnf
    exact H1 h2 of H2 x8 (fun a z1 _ => fr a z1) (fun z => absurd z (show ¬ 1 = 0 by decide))
set_option maxRecDepth 100000 in
theorem S_L_conflictKind {C : zK} (hC : zCld 215 zTT C) {h : zH} {n : Nat} {K : zQ} {A : zA} {of : Nat → Int64} (H : zX h A) (ho : h 108 = .inl (2, 1, .inr (.inl of))) {p : Int32} (H1 : ∀ h' of', zX h' A → h' 108 = .inl (2, 1, .inr (.inl of')) → (∀ a, 96 ≤ a → a ≠ 108 → h' a = h a) → (zgk (zgG p A.1) = 0 → of' 0 = (zgv (zgG p A.1)).toInt64) → K 0 (some (.int (nI (zgk (zgG p A.1))))) h' n) : C 207 [.ref 0, .int p, .ref 108] h n K := by
  refine zd_L_conflictKind hC rfl fun P hgo hF => ?_
  refine hgo [] 40 _ _ _ _ _ _ _ ?_
  conv => whnf
  refine ⟨rfl, _, H.1, ?_⟩
  refine S_X6_conflictKind hC H (fun h2 H2 o2 => ?_)
  have x8 := (o2 108 (by omega)).trans ho
  have fr : ∀ a, 96 ≤ a → h2 a = h a := fun a ha => o2 a (by omega)
  cases e : zgG p A.1 with
  | some v =>
    rw [e] at H1
    conv => whnf
    refine ⟨_, _, x8, vp_in_nI (n := 0) (by decide) (by decide), ?_⟩
    rw [show (0 : Int32).toNatClampNeg = 0 by decide]
    conv => whnf
    exact H1 _ _ (H2.of8 (by decide)) zupd_s (fun a z1 z2 => (zupd_n z2).trans (fr a z1)) (fun _ => pk_uLs)
  | none =>
    rw [e] at H1
    conv => whnf
    exact H1 h2 of H2 x8 (fun a z1 _ => fr a z1) (fun z => absurd z (show ¬ 1 = 0 by decide))
set_option maxRecDepth 100000 in
theorem S_L_similarity {C : zK} (hC : zCld 215 zTT C) {h : zH} {n : Nat} {K : zQ} {A : zA} {of : Nat → UInt64} (H : zX h A) (ho : h 109 = .inl (3, 1, .inr (.inr (.inr (.inl of))))) {d : Int32} (H1 : ∀ h' of', zX h' A → h' 109 = .inl (3, 1, .inr (.inr (.inr (.inl of')))) → (∀ a, 96 ≤ a → a ≠ 109 → h' a = h a) → (zgkD (zgD d A.1) = 0 → of' 0 = zgvD (zgD d A.1)) → K 0 (some (.int (nI (zgkD (zgD d A.1))))) h' n) : C 211 [.ref 0, .int d, .ref 109] h n K := by
  refine zd_L_similarity hC rfl fun P hgo hF => ?_
  refine hgo [] 40 _ _ _ _ _ _ _ ?_
  conv => whnf
  refine ⟨rfl, _, H.1, ?_⟩
  refine S_X6_similarity hC H (fun h2 H2 o2 => ?_)
  have x8 := (o2 109 (by omega)).trans ho
  have fr : ∀ a, 96 ≤ a → h2 a = h a := fun a ha => o2 a (by omega)
  cases e : zgD d A.1 with
  | some v =>
    rw [e] at H1
    conv => whnf
    refine ⟨_, _, x8, vp_in_nI (n := 0) (by decide) (by decide), ?_⟩
    rw [show (0 : Int32).toNatClampNeg = 0 by decide]
    conv => whnf
    exact H1 _ _ (H2.of8 (by decide)) zupd_s (fun a z1 z2 => (zupd_n z2).trans (fr a z1)) (fun _ => if_pos rfl)
  | none =>
    rw [e] at H1
    conv => whnf
    exact H1 h2 of H2 x8 (fun a z1 _ => fr a z1) (fun z => absurd z (show ¬ 1 = 0 by decide))

