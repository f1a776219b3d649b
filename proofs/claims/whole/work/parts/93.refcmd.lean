/-! The reference: a command, a text -/
theorem zPr.st {h : zH} {r : Nat} {c c' : Nat → Int32} {A : zA} {p : Bool × Nat} (H : zPr h r c A p) (h2 : c' 2 = c 2) (h4 : c' 4 = c 4) (h6 : c' 16 = c 16) (h7 : c' 17 = c 17) : zPr (zupd h r (zRO r c')) r c' A p := ⟨H.1.fld h2 h4, h6.trans H.2.1, h7.trans H.2.2⟩
/-- what a command leaves in the plain fields -/
def zCm (T : List Int32) (p : Bool × Nat) (c c' : Nat → Int32) : Prop := c' 18 = zrV T p ∧ c' 19 = zrCl T p ∧ c' 20 = zrCf T p ∧ c' 21 = zrCs T p (c 21) ∧ ∀ j, j < 16 → c' j = c j
set_option maxRecDepth 100000 in
theorem S_X7_command {C : zK} (hC : zCld 215 zTT C) {h : zH} {n : Nat} {K : zQ} {r : Nat} {c : Nat → Int32} {A : zA} {p : Bool × Nat} (H : zPr h r c A p) (hT : A.2.2.length ≤ 60) (hs : p.2 ≤ 800) (H1 : ∀ h' c', zPr h' r c' A (zrCp A.2.2 p) → zCm A.2.2 p c c' → zOff r (r + 1) h h' → K 0 none h' n) : C 184 [.ref r] h n K := by
  have le1 := zrD_le (T := A.2.2) (x := 1) (p := p)
  have le2 := zrC2_le (T := A.2.2) (p := p)
  have le3 := zrC3_le (T := A.2.2) (p := p)
  have le4 := zrC4_le (T := A.2.2) (p := p)
  refine zd_X7_command hC rfl fun P hgo hF => ?_
  have p111 : ∀ h5 c5, zPr h5 r c5 A (zrC3 A.2.2 p) → c5 18 = zrV A.2.2 p → c5 19 = zrCl A.2.2 p → c5 20 = zrCf A.2.2 p → c5 21 = c 21 → (∀ j, j < 16 → c5 j = c j) → zOff r (r + 1) h h5 → P 111 [some (.ref r)] [] h5 n 0 0 := by
    intro h5 c5 H5 f18 f19 f20 f21 fj o5
    unfold zCm zrCp zrCs at H1
    have b1 := H5.ob
    refine hgo [] 60 _ _ _ _ _ _ _ ?_
    conv => whnf
    refine ⟨_, b1, _, rfl, ?_⟩
    conv => whnf
    rw [f19]
    refine ⟨fun q => ?_, fun q => ?_⟩
    · rw [if_neg q] at H1
      conv => whnf
      refine ⟨_, b1, _, rfl, ?_⟩
      conv => whnf
      rw [f19]
      refine ⟨fun q2 => ?_, fun q2 => ?_⟩
      · rw [if_pos q2] at H1
        conv => whnf
        refine H1 h5 c5 H5 ⟨f18, f19, f20, ?_, fj⟩ o5
        rw [if_neg q, if_pos q2]
        exact f21
      · rw [if_neg q2] at H1
        have e4 : zrC4 A.2.2 p = zrS A.2.2 61 (zrC3 A.2.2 p) := if_neg q
        rw [e4] at le4
        conv => whnf
        refine ⟨_, b1, ?_⟩
        refine S_X7_sign hC H5 hT (by omega) (fun h6 c6 H6 k6 o6 => ?_)
        rw [← e4] at H6 le4
        conv => whnf
        refine ⟨_, H6.ob, ?_⟩
        refine S_X7_number hC H6 hT (by omega) (fun h7 c7 H7 k7 o7 => ?_)
        have kk := k6.tr k7
        have H8 : zPr (zupd h7 r (zRO r (upd c7 21 (zrNv A.2.2 99 (zrC4 A.2.2 p))))) r (upd c7 21 (zrNv A.2.2 99 (zrC4 A.2.2 p))) A (zrNp A.2.2 99 (zrC4 A.2.2 p)) := H7.st (upd_n (by decide)) (upd_n (by decide)) (upd_n (by decide)) (upd_n (by decide))
        have k9 := H1 _ _ H8 ⟨(upd_n (by decide)).trans ((kk 18 (by decide) (by decide)).trans f18), (upd_n (by decide)).trans ((kk 19 (by decide) (by decide)).trans f19), (upd_n (by decide)).trans ((kk 20 (by decide) (by decide)).trans f20), by rw [if_neg q, if_neg q2]; exact upd_s, fun j hj => (upd_n (by omega)).trans ((kk j (by omega) (by omega)).trans (fj j hj))⟩ (((o5.tr o6).tr o7).tr (zOff.up (Nat.le_refl _) (by omega)))
        conv => whnf
        refine ⟨_, H7.ob, Nat.le_of_ble_eq_true rfl, ⟨rfl, rfl⟩, ?_⟩
        conv => whnf
        exact k9
    · rw [if_pos q] at H1
      have e4 : zrC4 A.2.2 p = zrS A.2.2 62 (zrC3 A.2.2 p) := if_pos q
      rw [e4] at le4
      conv => whnf
      refine ⟨_, b1, ?_⟩
      refine S_X7_sign hC H5 hT (by omega) (fun h6 c6 H6 k6 o6 => ?_)
      rw [← e4] at H6 le4
      conv => whnf
      refine ⟨_, H6.ob, ?_⟩
      refine S_X7_number hC H6 hT (by omega) (fun h7 c7 H7 k7 o7 => ?_)
      have kk := k6.tr k7
      have H8 : zPr (zupd h7 r (zRO r (upd c7 21 (zrNv A.2.2 15 (zrC4 A.2.2 p))))) r (upd c7 21 (zrNv A.2.2 15 (zrC4 A.2.2 p))) A (zrNp A.2.2 15 (zrC4 A.2.2 p)) := H7.st (upd_n (by decide)) (upd_n (by decide)) (upd_n (by decide)) (upd_n (by decide))
      have k9 := H1 _ _ H8 ⟨(upd_n (by decide)).trans ((kk 18 (by decide) (by decide)).trans f18), (upd_n (by decide)).trans ((kk 19 (by decide) (by decide)).trans f19), (upd_n (by decide)).trans ((kk 20 (by decide) (by decide)).trans f20), by rw [if_pos q]; exact upd_s, fun j hj => (upd_n (by omega)).trans ((kk j (by omega) (by omega)).trans (fj j hj))⟩ (((o5.tr o6).tr o7).tr (zOff.up (Nat.le_refl _) (by omega)))
      conv => whnf
      refine ⟨_, H7.ob, Nat.le_of_ble_eq_true rfl, ⟨rfl, rfl⟩, ?_⟩
      conv => whnf
      exact k9
  clear H1
  have p101 : ∀ h4 c4, zPr h4 r c4 A (zrC2 A.2.2 p) → c4 18 = zrV A.2.2 p → c4 19 = zrCl A.2.2 p → c4 21 = c 21 → (∀ j, j < 16 → c4 j = c j) → zOff r (r + 1) h h4 → P 101 [some (.ref r)] [] h4 n 0 0 := by
    intro h4 c4 H4 f18 f19 f21 fj o4
    refine hgo [111] 60 _ _ _ _ _ _ _ ?_
    conv => whnf
    refine ⟨_, H4.ob, ?_⟩
    refine S_X7_number hC H4 hT (by omega) (fun h5 c5 H5 k5 o5 => ?_)
    have H6 : zPr (zupd h5 r (zRO r (upd c5 20 (zrCf A.2.2 p)))) r (upd c5 20 (zrCf A.2.2 p)) A (zrC3 A.2.2 p) := H5.st (upd_n (by decide)) (upd_n (by decide)) (upd_n (by decide)) (upd_n (by decide))
    have k9 := p111 _ _ H6 ((upd_n (by decide)).trans ((k5 18 (by decide) (by decide)).trans f18)) ((upd_n (by decide)).trans ((k5 19 (by decide) (by decide)).trans f19)) upd_s ((upd_n (by decide)).trans ((k5 21 (by decide) (by decide)).trans f21)) (fun j hj => (upd_n (by omega)).trans ((k5 j (by omega) (by omega)).trans (fj j hj))) ((o4.tr o5).tr (zOff.up (Nat.le_refl _) (by omega)))
    conv => whnf
    refine ⟨_, H5.ob, Nat.le_of_ble_eq_true rfl, ⟨rfl, rfl⟩, ?_⟩
    conv => whnf
    exact k9
  have p28 : ∀ h3 c3, zPr h3 r c3 A (zrD A.2.2 1 p) → c3 18 = zrV A.2.2 p → c3 19 = zrCl A.2.2 p → c3 21 = c 21 → (∀ j, j < 16 → c3 j = c j) → zOff r (r + 1) h h3 → P 28 [some (.ref r)] [] h3 n 0 0 := by
    intro h3 c3 H3 f18 f19 f21 fj o3
    have G := fun h' c' (a : zPr h' r c' A (zrC2 A.2.2 p)) (b : zPk c3 c') (d : zOff r (r + 1) h3 h') => p101 h' c' a ((b 18 (by decide) (by decide)).trans f18) ((b 19 (by decide) (by decide)).trans f19) ((b 21 (by decide) (by decide)).trans f21) (fun j hj => (b j (by omega) (by omega)).trans (fj j hj)) (o3.tr d)
    have b1 := H3.ob
    have e17 := H3.2.2
    unfold zrC2 at G
    have tl : ∀ w2 : Bool, (∀ h' c', zPr h' r c' A (zrA w2 (zrD A.2.2 1 p).2) → zPk c3 c' → zOff r (r + 1) h3 h' → P 101 [some (.ref r)] [] h' n 0 0) → P 77 [some (.ref r)] [.int (zbw w2), .ref r] h3 n 0 0 := by
      intro w2 G
      obtain ⟨H0, e16, e17⟩ := id H3
      cases w2 with
      | true =>
        have H2 : zYc (zupd h3 r (zRO r (upd c3 17 1))) r (upd c3 17 1) A := H0.fld (upd_n (by decide)) (upd_n (by decide))
        have H3 : zYc (zupd (zupd h3 r (zRO r (upd c3 17 1))) r (zRO r (upd (upd c3 17 1) 16 (nI (zrD A.2.2 1 p).2 + 0)))) r (upd (upd c3 17 1) 16 (nI (zrD A.2.2 1 p).2 + 0)) A := H2.fld (upd_n (by decide)) (upd_n (by decide))
        have k9 := G _ _ ⟨H3, upd_s.trans (Int32.add_zero _), (upd_n (by decide)).trans upd_s⟩ (fun j z1 z2 => (upd_n z1).trans (upd_n z2)) ((zOff.up (Nat.le_refl _) (by omega)).tr (zOff.up (Nat.le_refl _) (by omega)))
        refine hgo [101] 60 _ _ _ _ _ _ _ ?_
        conv => whnf
        refine ⟨_, H0.ob, Nat.le_of_ble_eq_true rfl, ⟨rfl, rfl⟩, ?_⟩
        conv => whnf
        refine ⟨_, H2.ob, _, rfl, ?_⟩
        conv => whnf
        rw [show upd c3 17 1 16 = nI (zrD A.2.2 1 p).2 from (upd_n (by decide)).trans e16]
        refine ⟨_, H2.ob, _, rfl, ?_⟩
        conv => whnf
        rw [show upd c3 17 1 17 = 1 from upd_s]
        refine ⟨fun z => absurd z (by decide), fun _ => ?_⟩
        conv => whnf
        refine ⟨_, H2.ob, Nat.le_of_ble_eq_true rfl, ⟨rfl, rfl⟩, ?_⟩
        conv => whnf
        exact k9
      | false =>
        have H2 : zYc (zupd h3 r (zRO r (upd c3 17 0))) r (upd c3 17 0) A := H0.fld (upd_n (by decide)) (upd_n (by decide))
        have H3 : zYc (zupd (zupd h3 r (zRO r (upd c3 17 0))) r (zRO r (upd (upd c3 17 0) 16 (nI (zrD A.2.2 1 p).2 + 1)))) r (upd (upd c3 17 0) 16 (nI (zrD A.2.2 1 p).2 + 1)) A := H2.fld (upd_n (by decide)) (upd_n (by decide))
        have k9 := G _ _ ⟨H3, upd_s.trans (nI_1 _), (upd_n (by decide)).trans upd_s⟩ (fun j z1 z2 => (upd_n z1).trans (upd_n z2)) ((zOff.up (Nat.le_refl _) (by omega)).tr (zOff.up (Nat.le_refl _) (by omega)))
        refine hgo [101] 60 _ _ _ _ _ _ _ ?_
        conv => whnf
        refine ⟨_, H0.ob, Nat.le_of_ble_eq_true rfl, ⟨rfl, rfl⟩, ?_⟩
        conv => whnf
        refine ⟨_, H2.ob, _, rfl, ?_⟩
        conv => whnf
        rw [show upd c3 17 0 16 = nI (zrD A.2.2 1 p).2 from (upd_n (by decide)).trans e16]
        refine ⟨_, H2.ob, _, rfl, ?_⟩
        conv => whnf
        rw [show upd c3 17 0 17 = 0 from upd_s]
        refine ⟨fun _ => ?_, fun z => absurd rfl z⟩
        conv => whnf
        refine ⟨_, H2.ob, Nat.le_of_ble_eq_true rfl, ⟨rfl, rfl⟩, ?_⟩
        conv => whnf
        exact k9
    refine hgo [72, 76, 77] 60 _ _ _ _ _ _ _ ?_
    conv => whnf
    refine ⟨_, b1, _, rfl, ?_⟩
    conv => whnf
    rw [e17]
    have yes : ((zrD A.2.2 1 p).1 || !zrK (zrCl A.2.2 p)) = true → P 72 [some (.ref r)] [.ref r] h3 n 0 0 := by
      intro e
      rw [e] at G
      have k9 := tl true G
      refine hgo [77] 20 _ _ _ _ _ _ _ ?_
      conv => whnf
      exact k9
    have no : ((zrD A.2.2 1 p).1 || !zrK (zrCl A.2.2 p)) = false → P 76 [some (.ref r)] [.ref r] h3 n 0 0 := by
      intro e
      rw [e] at G
      have k9 := tl false G
      refine hgo [77] 20 _ _ _ _ _ _ _ ?_
      conv => whnf
      exact k9
    unfold zrK at yes no
    cases hw : (zrD A.2.2 1 p).1 with
    | true =>
      rw [hw] at yes
      have k9 := yes rfl
      refine ⟨fun _ => ?_, fun z => absurd z (by decide)⟩
      conv => whnf
      exact k9
    | false =>
      rw [hw] at yes no
      refine ⟨fun z => absurd rfl z, fun _ => ?_⟩
      conv => whnf
      refine ⟨_, b1, _, rfl, ?_⟩
      conv => whnf
      rw [f19]
      refine ⟨fun q => ?_, fun q => ?_⟩
      · rw [decide_eq_true q] at no
        have k9 := no rfl
        conv => whnf
        exact k9
      · rw [decide_eq_false q] at yes no
        conv => whnf
        refine ⟨_, b1, _, rfl, ?_⟩
        conv => whnf
        rw [f19]
        refine ⟨fun q => ?_, fun q => ?_⟩
        · rw [decide_eq_true q] at no
          have k9 := no rfl
          conv => whnf
          exact k9
        · rw [decide_eq_false q] at yes no
          conv => whnf
          refine ⟨_, b1, _, rfl, ?_⟩
          conv => whnf
          rw [f19]
          refine ⟨fun q => ?_, fun q => ?_⟩
          · rw [decide_eq_true q] at no
            have k9 := no rfl
            conv => whnf
            exact k9
          · rw [decide_eq_false q] at yes no
            conv => whnf
            refine ⟨_, b1, _, rfl, ?_⟩
            conv => whnf
            rw [f19]
            refine ⟨fun q => ?_, fun q => ?_⟩
            · rw [decide_eq_true q] at no
              have k9 := no rfl
              conv => whnf
              exact k9
            · rw [decide_eq_false q] at yes
              have k9 := yes rfl
              conv => whnf
              exact k9
  unfold zrCl at p28
  refine hgo [28] 60 _ _ _ _ _ _ _ ?_
  conv => whnf
  refine ⟨_, H.ob, ?_⟩
  refine S_X7_digit hC H hT (by omega) (fun h1 c1 G1 k1 o1 => ?_)
  have G2 : zPr (zupd h1 r (zRO r (upd c1 18 (zrV A.2.2 p)))) r (upd c1 18 (zrV A.2.2 p)) A (zrD A.2.2 1 p) := G1.st (upd_n (by decide)) (upd_n (by decide)) (upd_n (by decide)) (upd_n (by decide))
  have o2 : zOff r (r + 1) h (zupd h1 r (zRO r (upd c1 18 (zrV A.2.2 p)))) := o1.tr (zOff.up (Nat.le_refl _) (by omega))
  have e17 := G2.2.2
  have fin : ∀ x : Int32, (match (zrD A.2.2 1 p).1 with
    | true => 0
    | false => zN A.2.2 (zrD A.2.2 1 p).2) = x → P 28 [some (.ref r)] [] (zupd (zupd h1 r (zRO r (upd c1 18 (zrV A.2.2 p)))) r (zRO r (upd (upd c1 18 (zrV A.2.2 p)) 19 x))) n 0 0 := by
    intro x hx
    have G3 : zPr (zupd (zupd h1 r (zRO r (upd c1 18 (zrV A.2.2 p)))) r (zRO r (upd (upd c1 18 (zrV A.2.2 p)) 19 x))) r (upd (upd c1 18 (zrV A.2.2 p)) 19 x) A (zrD A.2.2 1 p) := G2.st (upd_n (by decide)) (upd_n (by decide)) (upd_n (by decide)) (upd_n (by decide))
    exact p28 _ _ G3 ((upd_n (by decide)).trans upd_s) (upd_s.trans hx.symm) ((upd_n (by decide)).trans ((upd_n (by decide)).trans (k1 21 (by decide) (by decide)))) (fun j hj => (upd_n (by omega)).trans ((upd_n (by omega)).trans (k1 j (by omega) (by omega)))) (o2.tr (zOff.up (Nat.le_refl _) (by omega)))
  conv => whnf
  refine ⟨_, G1.ob, Nat.le_of_ble_eq_true rfl, ⟨rfl, rfl⟩, ?_⟩
  conv => whnf
  refine ⟨_, G2.ob, _, rfl, ?_⟩
  conv => whnf
  rw [e17]
  cases hw : (zrD A.2.2 1 p).1 with
  | true =>
    rw [hw] at fin
    have k9 := fin 0 rfl
    refine ⟨fun z => absurd z (by decide), fun _ => ?_⟩
    conv => whnf
    refine ⟨_, G2.ob, Nat.le_of_ble_eq_true rfl, ⟨rfl, rfl⟩, ?_⟩
    conv => whnf
    exact k9
  | false =>
    rw [hw] at fin
    have k9 := fin _ rfl
    refine ⟨fun _ => ?_, fun z => absurd rfl z⟩
    conv => whnf
    refine ⟨_, G2.ob, ?_⟩
    refine S_X7_next hC G2 hT (by omega) ?_
    conv => whnf
    refine ⟨_, G2.ob, Nat.le_of_ble_eq_true rfl, ⟨rfl, rfl⟩, ?_⟩
    conv => whnf
    exact k9
/-- the reference reads on from s -/
def zrW (T : List Int32) : Nat → Nat → Bool × Nat
  | 0, s => (true, s)
  | e + 1, s => if (zrCp T (false, s)).1 = true ∨ T.length ≤ (zrCp T (false, s)).2 then zrCp T (false, s) else if (zrS T 59 (zrCp T (false, s))).1 = true then zrS T 59 (zrCp T (false, s)) else zrW T e (zrS T 59 (zrCp T (false, s))).2
set_option maxRecDepth 100000 in
theorem S_X7_isWhole {C : zK} (hC : zCld 215 zTT C) {h : zH} {n : Nat} {K : zQ} {r : Nat} {c : Nat → Int32} {A : zA} (H : zYc h r c A) (hT : A.2.2.length ≤ 60) (H1 : ∀ h' c', zPr h' r c' A (zrW A.2.2 (A.2.2.length + 1) 0) → (∀ j, j < 16 → c' j = c j) → zOff r (r + 1) h h' → K 0 (some (.int (zbw (!(zrW A.2.2 (A.2.2.length + 1) 0).1)))) h' n) : C 185 [.ref r] h n K := by
  refine zd_X7_isWhole hC rfl fun P hgo hF => ?_
  have p70 : ∀ h2 c2, zPr h2 r c2 A (zrW A.2.2 (A.2.2.length + 1) 0) → (∀ j, j < 16 → c2 j = c j) → zOff r (r + 1) h h2 → P 70 [some (.ref r), none] [] h2 n 0 0 := by
    intro h2 c2 H2 f2 o2
    have k9 := H1 h2 c2 H2 f2 o2
    have e17 := H2.2.2
    refine hgo [] 40 _ _ _ _ _ _ _ ?_
    conv => whnf
    refine ⟨_, H2.ob, _, rfl, ?_⟩
    conv => whnf
    rw [e17]
    cases hw : (zrW A.2.2 (A.2.2.length + 1) 0).1 with
    | true =>
      rw [hw] at k9
      refine ⟨fun _ => ?_, fun z => absurd z (by decide)⟩
      conv => whnf
      exact ⟨Or.inl rfl, k9⟩
    | false =>
      rw [hw] at k9
      refine ⟨fun z => absurd rfl z, fun _ => ?_⟩
      conv => whnf
      exact ⟨Or.inr rfl, k9⟩
  have loop : ∀ e s h2 c2, A.2.2.length + 1 ≤ s + e → s ≤ A.2.2.length → zPr h2 r c2 A (false, s) → (∀ j, j < 16 → c2 j = c j) → zOff r (r + 1) h h2 → zrW A.2.2 e s = zrW A.2.2 (A.2.2.length + 1) 0 → P 12 [some (.ref r), some (.int 1)] [] h2 n 0 0 := by
    intro e
    induction e with
    | zero =>
      intro s h2 c2 h8 h9
      omega
    | succ e ih =>
      intro s h2 c2 h8 h9 H2 f2 o2 hW
      have hle := zrCp_le (T := A.2.2) (p := (false, s))
      have hle2 : s ≤ (zrCp A.2.2 (false, s)).2 ∧ (zrCp A.2.2 (false, s)).2 ≤ s + 7 := hle
      have hW2 : (if (zrCp A.2.2 (false, s)).1 = true ∨ A.2.2.length ≤ (zrCp A.2.2 (false, s)).2 then zrCp A.2.2 (false, s) else if (zrS A.2.2 59 (zrCp A.2.2 (false, s))).1 = true then zrS A.2.2 59 (zrCp A.2.2 (false, s)) else zrW A.2.2 e (zrS A.2.2 59 (zrCp A.2.2 (false, s))).2) = zrW A.2.2 (A.2.2.length + 1) 0 := hW
      refine hgo [12, 42, 65, 70] 60 _ _ _ _ _ _ _ ?_
      conv => whnf
      refine ⟨fun z => absurd z (by decide), fun _ => ?_⟩
      conv => whnf
      refine ⟨_, H2.ob, ?_⟩
      refine S_X7_command hC H2 hT (by show s ≤ 800; omega) (fun h3 c3 H3 m3 o3 => ?_)
      have b1 := H3.ob
      have e16 := H3.2.1
      have e17 := H3.2.2
      have f3 : ∀ j, j < 16 → c3 j = c j := fun j hj => (m3.2.2.2.2 j hj).trans (f2 j hj)
      have e4 : c3 4 = nI A.2.2.length := H3.1.2.2.2.2.2
      have p42 : ((zrCp A.2.2 (false, s)).1 = true ∨ A.2.2.length ≤ (zrCp A.2.2 (false, s)).2) → P 42 [some (.ref r), none] [] h3 n 0 0 := by
        intro g
        rw [if_pos g] at hW2
        rw [hW2] at H3
        have k9 := p70 h3 c3 H3 f3 (o2.tr o3)
        refine hgo [70] 60 _ _ _ _ _ _ _ ?_
        conv => whnf
        refine ⟨fun _ => ?_, fun z => absurd rfl z⟩
        conv => whnf
        refine ⟨fun _ => ?_, fun z => absurd rfl z⟩
        conv => whnf
        refine hF _ _ _ _ _ _ _ _ ?_ k9
        repeat (first | exact zf_0 | refine zf_s ?_ | refine zf_n ?_)
      conv => whnf
      refine ⟨_, b1, _, rfl, ?_⟩
      conv => whnf
      rw [e17]
      cases hw : (zrCp A.2.2 (false, s)).1 with
      | true =>
        have k9 := p42 (Or.inl hw)
        refine ⟨fun _ => ?_, fun z => absurd z (by decide)⟩
        conv => whnf
        refine hF _ _ _ _ _ _ _ _ ?_ k9
        repeat (first | exact zf_0 | refine zf_s ?_ | refine zf_n ?_)
      | false =>
        refine ⟨fun z => absurd rfl z, fun _ => ?_⟩
        conv => whnf
        refine ⟨_, b1, _, rfl, ?_⟩
        conv => whnf
        rw [e16]
        refine ⟨_, b1, _, rfl, ?_⟩
        conv => whnf
        rw [e4]
        refine ⟨fun q => ?_, fun q => ?_⟩
        · have k9 := p42 (Or.inr ((nI_leI (by omega) (by omega)).mp q))
          conv => whnf
          refine hF _ _ _ _ _ _ _ _ ?_ k9
          repeat (first | exact zf_0 | refine zf_s ?_ | refine zf_n ?_)
        · have hq : ¬ A.2.2.length ≤ (zrCp A.2.2 (false, s)).2 := fun z => q ((nI_leI (by omega) (by omega)).mpr z)
          rw [if_neg (fun z => z.elim (fun y => absurd (hw.symm.trans y) (by decide)) hq)] at hW2
          conv => whnf
          refine ⟨fun z => absurd z (by decide), fun _ => ?_⟩
          conv => whnf
          refine ⟨_, b1, ?_⟩
          refine S_X7_sign hC H3 hT (by omega) (fun h4 c4 H4 k4 o4 => ?_)
          have f4 : ∀ j, j < 16 → c4 j = c j := fun j hj => (k4 j (by omega) (by omega)).trans (f3 j hj)
          have e417 := H4.2.2
          have e5 : zrS A.2.2 59 (zrCp A.2.2 (false, s)) = zrA (!decide (zN A.2.2 (zrCp A.2.2 (false, s)).2 = 59)) (zrCp A.2.2 (false, s)).2 := by
            unfold zrS
            rw [hw]
            rfl
          conv => whnf
          refine ⟨_, H4.ob, _, rfl, ?_⟩
          conv => whnf
          rw [e417]
          by_cases g : zN A.2.2 (zrCp A.2.2 (false, s)).2 = 59
          · rw [decide_eq_true g] at e5
            rw [e5] at hW2 H4 ⊢
            have hW3 : zrW A.2.2 e ((zrCp A.2.2 (false, s)).2 + 1) = zrW A.2.2 (A.2.2.length + 1) 0 := hW2
            have k9 := ih ((zrCp A.2.2 (false, s)).2 + 1) h4 c4 (by omega) (by omega) H4 f4 ((o2.tr o3).tr o4) hW3
            refine ⟨fun z => absurd rfl z, fun _ => ?_⟩
            conv => whnf
            exact k9
          · rw [decide_eq_false g] at e5
            rw [e5] at hW2 H4 ⊢
            have hW3 : ((true, (zrCp A.2.2 (false, s)).2) : Bool × Nat) = zrW A.2.2 (A.2.2.length + 1) 0 := hW2
            have H5 : zPr h4 r c4 A (true, (zrCp A.2.2 (false, s)).2) := H4
            rw [hW3] at H5
            have k9 := p70 h4 c4 H5 f4 ((o2.tr o3).tr o4)
            have k8 : P 65 [some (.ref r), none] [] h4 n 0 0 := by
              refine hgo [70] 60 _ _ _ _ _ _ _ ?_
              conv => whnf
              refine ⟨fun _ => ?_, fun z => absurd rfl z⟩
              conv => whnf
              refine hF _ _ _ _ _ _ _ _ ?_ k9
              repeat (first | exact zf_0 | refine zf_s ?_ | refine zf_n ?_)
            refine ⟨fun _ => ?_, fun z => absurd z (show ¬ (1 : Int32) = 0 by decide)⟩
            conv => whnf
            refine hF _ _ _ _ _ _ _ _ ?_ k8
            repeat (first | exact zf_0 | refine zf_s ?_ | refine zf_n ?_)
  refine hgo [12] 60 _ _ _ _ _ _ _ ?_
  conv => whnf
  refine ⟨_, H.ob, Nat.le_of_ble_eq_true rfl, ⟨rfl, rfl⟩, ?_⟩
  conv => whnf
  have H2 : zYc (zupd h r (zRO r (upd c 16 0))) r (upd c 16 0) A := H.fld (upd_n (by decide)) (upd_n (by decide))
  refine ⟨_, H2.ob, Nat.le_of_ble_eq_true rfl, ⟨rfl, rfl⟩, ?_⟩
  conv => whnf
  have H3 : zYc (zupd (zupd h r (zRO r (upd c 16 0))) r (zRO r (upd (upd c 16 0) 17 0))) r (upd (upd c 16 0) 17 0) A := H2.fld (upd_n (by decide)) (upd_n (by decide))
  exact loop (A.2.2.length + 1) 0 _ _ (by omega) (Nat.zero_le _) ⟨H3, (upd_n (by decide)).trans upd_s, upd_s⟩ (fun j hj => (upd_n (by omega)).trans (upd_n (by omega))) ((zOff.up (Nat.le_refl _) (by omega)).tr (zOff.up (Nat.le_refl _) (by omega))) rfl

