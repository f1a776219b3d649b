/-! The reference as a whole -/
/-- the reference's other rows, whatever they hold -/
def zYs (h : zH) (r : Nat) : Prop := (∃ f, h (r + 4) = .inl (1, 20, .inl f)) ∧ (∃ f, h (r + 5) = .inl (0, 30, .inl f)) ∧ (∃ f, h (r + 6) = .inl (0, 30, .inl f)) ∧ (∃ f, h (r + 7) = .inl (0, 20, .inl f)) ∧ (∃ f, h (r + 8) = .inl (0, 20, .inl f)) ∧ (∃ f, h (r + 9) = .inl (0, 10, .inl f)) ∧ (∃ f, h (r + 10) = .inl (0, 10, .inl f)) ∧ ∃ f, h (r + 11) = .inl (0, 16, .inl f)
theorem zYs.eq {h h' : zH} {r : Nat} (H : zYs h r) (e : ∀ a, r + 4 ≤ a → a < r + 12 → h' a = h a) : zYs h' r := by
  obtain ⟨⟨f1, a1⟩, ⟨f2, a2⟩, ⟨f3, a3⟩, ⟨f4, a4⟩, ⟨f5, a5⟩, ⟨f6, a6⟩, ⟨f7, a7⟩, ⟨f8, a8⟩⟩ := H
  exact ⟨⟨f1, (e _ (by omega) (by omega)).trans a1⟩, ⟨f2, (e _ (by omega) (by omega)).trans a2⟩, ⟨f3, (e _ (by omega) (by omega)).trans a3⟩, ⟨f4, (e _ (by omega) (by omega)).trans a4⟩, ⟨f5, (e _ (by omega) (by omega)).trans a5⟩, ⟨f6, (e _ (by omega) (by omega)).trans a6⟩, ⟨f7, (e _ (by omega) (by omega)).trans a7⟩, ⟨f8, (e _ (by omega) (by omega)).trans a8⟩⟩
/-- the reference's text -/
def zYt (h : zH) (r : Nat) (T : List Int32) : Prop := ∃ tf : Nat → Int32, h (r + 3) = .inl (0, 60, .inl tf) ∧ ∀ j x, T[j]? = some x → tf j = x
def zYb (h : zH) (r : Nat) (Sv : List zS) : Prop := ∃ bf : Nat → Int32, h (r + 2) = .inl (0, 636, .inl bf) ∧ zBf bf Sv
/-- the reference holds all this; c: its plain fields -/
def zYc (h : zH) (r : Nat) (c : Nat → Int32) (A : zA) : Prop := zRr h r c A.1 ∧ zYb h r A.2.1 ∧ zYt h r A.2.2 ∧ zYs h r ∧ c 2 = nI A.2.1.length ∧ c 4 = nI A.2.2.length
def zY (h : zH) (r : Nat) (A : zA) (th : Nat) : Prop := ∃ c, zYc h r c A ∧ c 5 = nI th
/-- only the object's own fields have changed -/
theorem zYc.fld {h : zH} {r : Nat} {c c' : Nat → Int32} {A : zA} (H : zYc h r c A) (h2 : c' 2 = c 2) (h4 : c' 4 = c 4) : zYc (zupd h r (zRO r c')) r c' A := by
  obtain ⟨⟨a1, f, a2, a3⟩, ⟨bf, b1, b2⟩, ⟨tf, t1, t2⟩, s, e2, e4⟩ := H
  exact ⟨⟨zupd_s, f, (zupd_n (by omega)).trans a2, a3⟩, ⟨bf, (zupd_n (by omega)).trans b1, b2⟩, ⟨tf, (zupd_n (by omega)).trans t1, t2⟩, s.eq (fun a h5 h6 => zupd_n (by omega)), h2.trans e2, h4.trans e4⟩
/-- only the state has changed -/
theorem zYc.put {h h' : zH} {r : Nat} {c : Nat → Int32} {A : zA} {σ : zS} (H : zYc h r c A) (hr : zRr h' r c σ) (ho : zOff (r + 1) (r + 2) h h') : zYc h' r c (σ, A.2.1, A.2.2) := by
  obtain ⟨-, ⟨bf, b1, b2⟩, ⟨tf, t1, t2⟩, s, e2, e4⟩ := H
  exact ⟨hr, ⟨bf, (ho _ (by omega)).trans b1, b2⟩, ⟨tf, (ho _ (by omega)).trans t1, t2⟩, s.eq (fun a h5 h6 => ho a (by omega)), e2, e4⟩
set_option maxRecDepth 100000 in
theorem S_yref {C : zK} (hC : zCld 215 zTT C) {h : zH} {n : Nat} {K : zQ} {r : Nat} {c : Nat → Int32} {A : zA} (H : zYc h r c A) {k : Nat} (hk : k < 1000) (H1 : 0 < k → ∀ h' c', zYc h' r c' A → c' 5 = nI k → zOff r (r + 1) h h' → K 0 (some (.int 1)) h' n) (H0 : k = 0 → ∀ h' c', zYc h' r c' A → c' 5 = nI 0 → zOff r (r + 1) h h' → K 0 (some (.int 0)) h' n) : C 120 [.ref r, .int (nI k)] h n K := by
  refine S_X7_refused hC H.1.1 (fun q => ?_) (fun q => ?_)
  · have hpos : 0 < k := (nI_ltI (a := 0) (b := k) (by decide) (by omega)).mp q
    exact H1 hpos _ (upd c 5 (nI k)) (H.fld (upd_n (by decide)) (upd_n (by decide))) upd_s (zOff.up (Nat.le_refl _) (by omega))
  · have hz : k = 0 := by
      have : ¬ 0 < k := fun y => q ((nI_ltI (a := 0) (b := k) (by decide) (by omega)).mpr y)
      omega
    rw [hz] at q ⊢
    exact H0 hz _ (upd c 5 (nI 0)) (H.fld (upd_n (by decide)) (upd_n (by decide))) upd_s (zOff.up (Nat.le_refl _) (by omega))
set_option maxRecDepth 100000 in
theorem S_ysave {C : zK} (hC : zCld 215 zTT C) {h : zH} {n : Nat} {K : zQ} {r : Nat} {c : Nat → Int32} {A : zA} (H : zYc h r c A) (hl : A.2.1.length ≤ 6) (H1 : ∀ h' c', zYc h' r c' (A.1, (A.1 :: A.2.1).take 6, A.2.2) → c' 5 = c 5 → zOff r (r + 12) h h' → K 0 none h' n) : C 122 [.ref r] h n K := by
  obtain ⟨⟨a1, f, a2, a3⟩, ⟨bf, b1, b2⟩, ⟨tf, t1, t2⟩, s, e2, e4⟩ := H
  refine S_X7_saves hC a1 a2 a3 b1 b2 e2 hl (fun h' c' bf' g1 g2 g3 g4 g5 g6 => ?_)
  exact H1 h' c' ⟨⟨g1, f, (g6 _ (by omega) (by omega)).trans a2, a3⟩, ⟨bf', g4, g5⟩, ⟨tf, (g6 _ (by omega) (by omega)).trans t1, t2⟩, s.eq (fun a h5 h6 => g6 a (by omega) (by omega)), g2, (g3 4 (by decide)).trans e4⟩ (g3 5 (by decide)) (fun a ha => g6 a (by omega) (by omega))
set_option maxRecDepth 100000 in
theorem S_X7_edit {C : zK} (hC : zCld 215 zTT C) {h : zH} {n : Nat} {K : zQ} {r th : Nat} {A : zA} (H : zY h r A th) (W : zwA A) {d p y : Int32} (H1 : ∀ h', zY h' r (zoC (zcE d p y A.1) A).2.1 (zoC (zcE d p y A.1) A).1 → zOff r (r + 12) h h' → K 0 (some (.int (zoC (zcE d p y A.1) A).2.2)) h' n) : C 145 [.ref r, .int d, .int p, .int y] h n K := by
  obtain ⟨c, H, -⟩ := H
  have hob := H.1.1
  have hsl := W.2.2.1
  refine zd_X7_edit hC rfl fun P hgo hF => ?_
  refine hgo [] 40 _ _ _ _ _ _ _ ?_
  conv => whnf
  refine ⟨_, hob, ?_⟩
  refine S_X7_barEdit hC H.1 ?_
  rcases zcE_cs d p y A.1 with e | e | ⟨d', p', c', a1, a2, a3, a4, a5, a6, e⟩
  · rw [e] at H1 ⊢
    dsimp only
    conv => whnf
    refine ⟨_, hob, ?_⟩
    refine S_yref hC H (by decide) (fun _ h2 c2 H2 e2 o2 => ?_) (fun z => absurd z (by decide))
    conv => whnf
    refine ⟨fun z => absurd z (by decide), fun _ => ?_⟩
    conv => whnf
    exact H1 h2 ⟨c2, H2, e2⟩ (o2.wd (by omega) (by omega))
  · rw [e] at H1 ⊢
    dsimp only
    conv => whnf
    refine ⟨_, hob, ?_⟩
    refine S_yref hC H (by decide) (fun _ h2 c2 H2 e2 o2 => ?_) (fun z => absurd z (by decide))
    conv => whnf
    refine ⟨fun z => absurd z (by decide), fun _ => ?_⟩
    conv => whnf
    exact H1 h2 ⟨c2, H2, e2⟩ (o2.wd (by omega) (by omega))
  · rw [e] at H1 ⊢
    dsimp only
    conv => whnf
    refine ⟨_, hob, ?_⟩
    refine S_yref hC H (by decide) (fun z => absurd z (by decide)) (fun _ h2 c2 H2 e2 o2 => ?_)
    conv => whnf
    refine ⟨fun _ => ?_, fun z => absurd rfl z⟩
    conv => whnf
    refine ⟨_, H2.1.1, ?_⟩
    refine S_ysave hC H2 hsl (fun h3 c3 H3 e3 o3 => ?_)
    conv => whnf
    refine ⟨_, H3.1.1, ?_⟩
    rw [a1, a3, a5]
    refine S_X7_edits hC H3.1 a2 a4 (by omega) (fun h4 H4 o4 => ?_)
    conv => whnf
    exact H1 h4 ⟨c3, H3.put H4 o4, e3.trans e2⟩ (((o2.wd (by omega) (by omega)).tr o3).tr (o4.wd (by omega) (by omega)))
set_option maxRecDepth 100000 in
theorem S_X7_move {C : zK} (hC : zCld 215 zTT C) {h : zH} {n : Nat} {K : zQ} {r th : Nat} {A : zA} (H : zY h r A th) (W : zwA A) {d p y : Int32} (H1 : ∀ h', zY h' r (zoC (zcM d p y A.1) A).2.1 (zoC (zcM d p y A.1) A).1 → zOff r (r + 12) h h' → K 0 (some (.int (zoC (zcM d p y A.1) A).2.2)) h' n) : C 146 [.ref r, .int d, .int p, .int y] h n K := by
  obtain ⟨c, H, -⟩ := H
  have hob := H.1.1
  have hsl := W.2.2.1
  refine zd_X7_move hC rfl fun P hgo hF => ?_
  refine hgo [] 40 _ _ _ _ _ _ _ ?_
  conv => whnf
  refine ⟨_, hob, ?_⟩
  refine S_X7_barMove hC H.1 ?_
  rcases zcM_cs d p y A.1 with e | ⟨d', p', c', a1, a2, a3, a4, a5, a6, e⟩
  · rw [e] at H1 ⊢
    dsimp only
    conv => whnf
    refine ⟨_, hob, ?_⟩
    refine S_yref hC H (by decide) (fun _ h2 c2 H2 e2 o2 => ?_) (fun z => absurd z (by decide))
    conv => whnf
    refine ⟨fun z => absurd z (by decide), fun _ => ?_⟩
    conv => whnf
    exact H1 h2 ⟨c2, H2, e2⟩ (o2.wd (by omega) (by omega))
  · rw [e] at H1 ⊢
    dsimp only
    conv => whnf
    refine ⟨_, hob, ?_⟩
    refine S_yref hC H (by decide) (fun z => absurd z (by decide)) (fun _ h2 c2 H2 e2 o2 => ?_)
    conv => whnf
    refine ⟨fun _ => ?_, fun z => absurd rfl z⟩
    conv => whnf
    refine ⟨_, H2.1.1, ?_⟩
    refine S_ysave hC H2 hsl (fun h3 c3 H3 e3 o3 => ?_)
    conv => whnf
    refine ⟨_, H3.1.1, ?_⟩
    rw [a1, a3, a5]
    refine S_X7_shifts hC H3.1 a2 a4 a6 (fun h4 H4 o4 => ?_)
    conv => whnf
    exact H1 h4 ⟨c3, H3.put H4 o4, e3.trans e2⟩ (((o2.wd (by omega) (by omega)).tr o3).tr (o4.wd (by omega) (by omega)))
set_option maxRecDepth 100000 in
theorem S_X7_remove {C : zK} (hC : zCld 215 zTT C) {h : zH} {n : Nat} {K : zQ} {r th : Nat} {A : zA} (H : zY h r A th) (W : zwA A) {d p : Int32} (H1 : ∀ h', zY h' r (zoC (zcR d p A.1) A).2.1 (zoC (zcR d p A.1) A).1 → zOff r (r + 12) h h' → K 0 (some (.int (zoC (zcR d p A.1) A).2.2)) h' n) : C 148 [.ref r, .int d, .int p] h n K := by
  obtain ⟨c, H, -⟩ := H
  have hob := H.1.1
  have hsl := W.2.2.1
  refine zd_X7_remove hC rfl fun P hgo hF => ?_
  refine hgo [] 40 _ _ _ _ _ _ _ ?_
  conv => whnf
  refine ⟨_, hob, ?_⟩
  refine S_X7_barRemove hC H.1 ?_
  rcases zcR_cs d p A.1 with e | ⟨d', p', a1, a2, a3, a4, e⟩
  · rw [e] at H1 ⊢
    dsimp only
    conv => whnf
    refine ⟨_, hob, ?_⟩
    refine S_yref hC H (by decide) (fun _ h2 c2 H2 e2 o2 => ?_) (fun z => absurd z (by decide))
    conv => whnf
    refine ⟨fun z => absurd z (by decide), fun _ => ?_⟩
    conv => whnf
    exact H1 h2 ⟨c2, H2, e2⟩ (o2.wd (by omega) (by omega))
  · rw [e] at H1 ⊢
    dsimp only
    conv => whnf
    refine ⟨_, hob, ?_⟩
    refine S_yref hC H (by decide) (fun z => absurd z (by decide)) (fun _ h2 c2 H2 e2 o2 => ?_)
    conv => whnf
    refine ⟨fun _ => ?_, fun z => absurd rfl z⟩
    conv => whnf
    refine ⟨_, H2.1.1, ?_⟩
    refine S_ysave hC H2 hsl (fun h3 c3 H3 e3 o3 => ?_)
    conv => whnf
    refine ⟨_, H3.1.1, ?_⟩
    rw [a1, a3]
    refine S_X7_removes hC H3.1 a2 a4 (fun h4 H4 o4 => ?_)
    conv => whnf
    exact H1 h4 ⟨c3, H3.put H4 o4, e3.trans e2⟩ (((o2.wd (by omega) (by omega)).tr o3).tr (o4.wd (by omega) (by omega)))
set_option maxRecDepth 100000 in
theorem S_X7_insert {C : zK} (hC : zCld 215 zTT C) {h : zH} {n : Nat} {K : zQ} {r th : Nat} {A : zA} (H : zY h r A th) (W : zwA A) {d p y : Int32} (H1 : ∀ h', zY h' r (zoC (zcI d p y A.1) A).2.1 (zoC (zcI d p y A.1) A).1 → zOff r (r + 12) h h' → K 0 (some (.int (zoC (zcI d p y A.1) A).2.2)) h' n) : C 147 [.ref r, .int d, .int p, .int y] h n K := by
  obtain ⟨c, H, -⟩ := H
  have hob := H.1.1
  have hsl := W.2.2.1
  have w3 := W.1.2.2.1
  refine zd_X7_insert hC rfl fun P hgo hF => ?_
  refine hgo [] 40 _ _ _ _ _ _ _ ?_
  conv => whnf
  refine ⟨_, hob, ?_⟩
  refine S_X7_barInsert hC H.1 ?_
  rcases zcI_cs d p y A.1 with e | e | e | ⟨d', p', c', a1, a2, a3, a4, a5, a6, a7, e⟩
  · rw [e] at H1 ⊢
    dsimp only
    conv => whnf
    refine ⟨_, hob, ?_⟩
    refine S_yref hC H (by decide) (fun _ h2 c2 H2 e2 o2 => ?_) (fun z => absurd z (by decide))
    conv => whnf
    refine ⟨fun z => absurd z (by decide), fun _ => ?_⟩
    conv => whnf
    exact H1 h2 ⟨c2, H2, e2⟩ (o2.wd (by omega) (by omega))
  · rw [e] at H1 ⊢
    dsimp only
    conv => whnf
    refine ⟨_, hob, ?_⟩
    refine S_yref hC H (by decide) (fun _ h2 c2 H2 e2 o2 => ?_) (fun z => absurd z (by decide))
    conv => whnf
    refine ⟨fun z => absurd z (by decide), fun _ => ?_⟩
    conv => whnf
    exact H1 h2 ⟨c2, H2, e2⟩ (o2.wd (by omega) (by omega))
  · rw [e] at H1 ⊢
    dsimp only
    conv => whnf
    refine ⟨_, hob, ?_⟩
    refine S_yref hC H (by decide) (fun _ h2 c2 H2 e2 o2 => ?_) (fun z => absurd z (by decide))
    conv => whnf
    refine ⟨fun z => absurd z (by decide), fun _ => ?_⟩
    conv => whnf
    exact H1 h2 ⟨c2, H2, e2⟩ (o2.wd (by omega) (by omega))
  · rw [e] at H1 ⊢
    have hln := H.1.ln d'
    dsimp only
    conv => whnf
    refine ⟨_, hob, ?_⟩
    refine S_yref hC H (by decide) (fun z => absurd z (by decide)) (fun _ h2 c2 H2 e2 o2 => ?_)
    conv => whnf
    refine ⟨fun _ => ?_, fun z => absurd rfl z⟩
    conv => whnf
    refine ⟨_, H2.1.1, ?_⟩
    refine S_ysave hC H2 hsl (fun h3 c3 H3 e3 o3 => ?_)
    conv => whnf
    refine ⟨_, H3.1.1, ?_⟩
    rw [a1, a3, a5]
    have h15 : (zdr A.1 d').length < 15 := by
      have : (zdr A.1 d').length ≠ 15 := fun z => a7 (Or.inl z)
      omega
    refine S_X7_inserts hC H3.1 (by show zus A.1 < 1000; omega) a2 (by show p' ≤ (zdr A.1 d').length; omega) h15 (by omega) (fun h4 H4 o4 => ?_)
    conv => whnf
    exact H1 h4 ⟨c3, H3.put H4 o4, e3.trans e2⟩ (((o2.wd (by omega) (by omega)).tr o3).tr (o4.wd (by omega) (by omega)))

