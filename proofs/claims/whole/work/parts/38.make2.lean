/-! Merge: make, and what is read of it -/
/-- the cells of a merge, whatever they hold -/
def zMsh (h : zH) (m : Nat) : Prop := (∃ (k : Nat) (cb ck pl ct : Nat → Int32), zMg h m k cb ck pl ct) ∧ (∃ c f g, zRaw h (m + 1) 30 c f g) ∧ (∃ cf af : Nat → Int32, zDc h (m + 4) cf af) ∧ ∃ cf af : Nat → Int32, zDc h (m + 7) cf af
/-- a merge has been made of the state -/
def zMer (h : zH) (m : Nat) (σ : zS) : Prop := (∃ pl ct, zMk h m (zcfl σ (zba σ).length) pl ct) ∧ zBl h (m + 1) 30 (zmer σ) ∧ zDx h (m + 4) (zba σ).length (zcx σ 0) ∧ zDx h (m + 7) (zba σ).length (zcx σ 1)
theorem zMer.shp {h : zH} {m : Nat} {σ : zS} (H : zMer h m σ) : zMsh h m := by
  obtain ⟨⟨pl, ct, cb, ck, h1, -⟩, h2, h3, h4⟩ := H
  obtain ⟨f, g, r, -⟩ := h2.raw
  exact ⟨⟨_, _, _, _, _, h1⟩, ⟨_, _, _, r⟩, h3.raw, h4.raw⟩
theorem zMsh.off {lo hi m : Nat} {h h' : zH} (H : zMsh h m) (ho : zOff lo hi h h') (hd : m + 14 ≤ lo ∨ hi ≤ m) : zMsh h' m := by
  obtain ⟨⟨k, cb, ck, pl, ct, a1, a2, a3, a4, a5⟩, ⟨c, f, g, r⟩, ⟨cf, af, b⟩, ⟨cf2, af2, b2⟩⟩ := H
  exact ⟨⟨k, cb, ck, pl, ct, (ho _ (by omega)).trans a1, (ho _ (by omega)).trans a2, (ho _ (by omega)).trans a3, (ho _ (by omega)).trans a4, (ho _ (by omega)).trans a5⟩, ⟨c, f, g, r.off ho (by omega)⟩, ⟨cf, af, b.off ho (by omega)⟩, ⟨cf2, af2, b2.off ho (by omega)⟩⟩
set_option maxRecDepth 100000 in
theorem S_X4_make {C : zK} (hC : zCld 215 zTT C) {h : zH} {n : Nat} {K : zQ} {m s : Nat} {σ : zS} (H : zMsh h m) (Hs : zSta h s σ) (W : zwf σ) (hm : s + 11 ≤ m ∨ m + 14 ≤ s) (H1 : ∀ h', zMer h' m σ → zOff m (m + 14) h h' → K 0 none h' n) : C 53 [.ref m, .ref s] h n K := by
  obtain ⟨⟨k0, cb0, ck0, pl0, ct0, q1, q2, q3, q4, q5⟩, ⟨cR, fR, gR, rR⟩, ⟨cf0, af0, e0⟩, ⟨cf1, af1, e1⟩⟩ := H
  have st0 := Hs.1
  have ob0 := e0.1
  refine zd_X4_make hC rfl fun P hgo hF => ?_
  refine hgo [44] 60 _ _ _ _ _ _ _ ?_
  conv => whnf
  refine ⟨_, q1, _, rfl, ?_⟩
  conv => whnf
  refine ⟨_, st0, _, rfl, ?_⟩
  conv => whnf
  refine ⟨_, st0, _, rfl, ?_⟩
  conv => whnf
  refine ⟨_, ob0, ?_⟩
  refine S_X2_compare hC e0 Hs.2.1 (Hs.dr (d := 0)) ⟨by omega, by have := zda_in s 0; omega⟩ (fun h1 X0 o1 => ?_)
  have hnb := X0.1
  have p1 := (o1 _ (by omega)).trans q1
  have p2 := (o1 _ (by omega)).trans q2
  have p3 := (o1 _ (by omega)).trans q3
  have p4 := (o1 _ (by omega)).trans q4
  have p5 := (o1 _ (by omega)).trans q5
  have S1 := Hs.off o1 (by omega)
  have st1 := S1.1
  have R1 := rR.off o1 (by omega)
  have E1 := e1.off o1 (by omega)
  have ob1 := E1.1
  conv => whnf
  refine ⟨_, p1, _, rfl, ?_⟩
  conv => whnf
  refine ⟨_, st1, _, rfl, ?_⟩
  conv => whnf
  refine ⟨_, st1, _, rfl, ?_⟩
  conv => whnf
  refine ⟨_, ob1, ?_⟩
  refine S_X2_compare hC E1 S1.2.1 (S1.dr (d := 1)) ⟨by omega, by have := zda_in s 1; omega⟩ (fun h2 X1 o2 => ?_)
  have t1 := (o2 _ (by omega)).trans p1
  have t2 := (o2 _ (by omega)).trans p2
  have t3 := (o2 _ (by omega)).trans p3
  have t4 := (o2 _ (by omega)).trans p4
  have t5 := (o2 _ (by omega)).trans p5
  have S2 := S1.off o2 (by omega)
  have R2 := R1.off o2 (by omega)
  have r2 := R2.1
  have X02 := X0.off o2 (by omega)
  have o12 := (o1.wd (show m ≤ m + 4 by omega) (show m + 4 + 3 ≤ m + 14 by omega)).tr (o2.wd (show m ≤ m + 7 by omega) (show m + 7 + 3 ≤ m + 14 by omega))
  conv => whnf
  refine ⟨_, t1, _, rfl, ?_⟩
  conv => whnf
  refine ⟨_, r2, ?_⟩
  refine S_X0_clear hC R2 (by decide) (fun h3 B3 o3 => ?_)
  have u1 := (o3 _ (by omega)).trans t1
  have u2 := (o3 _ (by omega)).trans t2
  have u3 := (o3 _ (by omega)).trans t3
  have u4 := (o3 _ (by omega)).trans t4
  have u5 := (o3 _ (by omega)).trans t5
  have S3 := S2.off o3 (by omega)
  have X03 := X02.off o3 (by omega)
  have X13 := X1.off o3 (by omega)
  have o13 := o12.tr (o3.wd (show m ≤ m + 1 by omega) (show m + 1 + 3 ≤ m + 14 by omega))
  conv => whnf
  refine ⟨_, u1, Nat.le_of_ble_eq_true rfl, ⟨rfl, rfl⟩, ?_⟩
  conv => whnf
  have o4 : zOff m (m + 1) h3 (zupd h3 m (.inr (4, [.ref (m + 1), .ref (m + 4), .ref (m + 7), .ref (m + 10), .ref (m + 11), .int 0, .ref (m + 12), .ref (m + 13)]))) := zOff.up (Nat.le_refl _) (by omega)
  have M4 : zMk (zupd h3 m (.inr (4, [.ref (m + 1), .ref (m + 4), .ref (m + 7), .ref (m + 10), .ref (m + 11), .int 0, .ref (m + 12), .ref (m + 13)]))) m [] pl0 ct0 := ⟨cb0, ck0, ⟨zupd_s, (o4 _ (by omega)).trans u2, (o4 _ (by omega)).trans u3, (o4 _ (by omega)).trans u4, (o4 _ (by omega)).trans u5⟩, Nat.zero_le _, fun j v hv => nomatch hv⟩
  refine (show ∀ h4, zMk h4 m [] pl0 ct0 → zOff m (m + 1) h3 h4 → P 44 [some (.ref m), some (.ref s), some (.int (nI 0))] [] h4 n 0 0 from ?_) _ M4 o4
  clear M4 o4
  intro h4 M4 o4
  have S4 := S3.off o4 (by omega)
  have X04 := X03.off o4 (by omega)
  have X14 := X13.off o4 (by omega)
  have B4 := B3.off o4 (by omega)
  have o14 := o13.tr (o4.wd (Nat.le_refl _) (show m + 1 ≤ m + 14 by omega))
  clear o1 o2 o3 o4 o12 o13 q1 q2 q3 q4 q5 p1 p2 p3 p4 p5 t1 t2 t3 t4 t5 u1 u2 u3 u4 u5
  -- the last two loops
  have tail : ∀ (h5 : zH) (o : Option Value) (pl ct : Nat → Int32), zMk h5 m (zcfl σ (zba σ).length) pl ct → zSta h5 s σ → zDx h5 (m + 4) (zba σ).length (zcx σ 0) → zDx h5 (m + 7) (zba σ).length (zcx σ 1) → zPc σ pl ct → zOff m (m + 14) h h5 → zBl h5 (m + 1) 30 (zfr σ (zba σ).length) → P 114 [some (.ref m), some (.ref s), o] [] h5 n 0 0 := by
    intro h5 o pl ct K5 S5 X05 X15 pc5 o5 B5
    have ob5 := K5.obj
    refine hgo [44] 60 _ _ _ _ _ _ _ ?_
    conv => whnf
    refine ⟨_, ob5, ?_⟩
    refine S_X4_putBlocksOf hC (d := 0) K5 S5 W (by decide) hm pc5 hnb B5 (zfr_mo hnb) (fun h6 B6 o6 => ?_)
    have K6 := K5.of1 o6 (by omega) (by omega)
    have S6 := S5.off o6 (by omega)
    have X06 := X05.off o6 (by omega)
    have X16 := X15.off o6 (by omega)
    have ob6 := K6.obj
    have hO6 : zMo σ 1 0 (zpus σ 0 (zdr σ 0).length 0 (zfr σ (zba σ).length)) := ((zfr_mo hnb).steps W (by decide)).next
    conv => whnf
    refine ⟨_, ob6, ?_⟩
    refine S_X4_putBlocksOf hC (d := 1) K6 S6 W (by decide) hm pc5 hnb B6 hO6 (fun h7 B7 o7 => ?_)
    conv => whnf
    exact H1 h7 ⟨⟨pl, ct, K6.of1 o7 (by omega) (by omega)⟩, B7, X06.off o7 (by omega), X16.off o7 (by omega)⟩ ((o5.tr (o6.wd (show m ≤ m + 1 by omega) (show m + 4 ≤ m + 14 by omega))).tr (o7.wd (show m ≤ m + 1 by omega) (show m + 4 ≤ m + 14 by omega)))
  have loop2 : ∀ e j (h5 : zH) (pl ct : Nat → Int32), j + e = (zba σ).length → zMk h5 m (zcfl σ (zba σ).length) pl ct → zSta h5 s σ → zDx h5 (m + 4) (zba σ).length (zcx σ 0) → zDx h5 (m + 7) (zba σ).length (zcx σ 1) → zPc σ pl ct → zOff m (m + 14) h h5 → zBl h5 (m + 1) 30 (zfr σ j) → P 69 [some (.ref m), some (.ref s), some (.int (nI j))] [] h5 n 0 0 := by
    intro e
    induction e with
    | zero =>
      intro j h5 pl ct hj K5 S5 X05 X15 pc5 o5 B5
      have st5 := S5.1
      obtain ⟨f, g, ⟨rb, -, -⟩, -⟩ := S5.2.1.raw
      refine hgo [44, 69, 114] 60 _ _ _ _ _ _ _ ?_
      conv => whnf
      refine ⟨_, st5, _, rfl, ?_⟩
      conv => whnf
      refine ⟨_, rb, _, rfl, ?_⟩
      conv => whnf
      refine ⟨fun _ => ?_, fun q => absurd (nI_le (show (zba σ).length ≤ j by omega) (show j < 2 ^ 31 by omega)) q⟩
      conv => whnf
      rw [show j = (zba σ).length by omega] at B5
      exact tail h5 _ pl ct K5 S5 X05 X15 pc5 o5 B5
    | succ e ih =>
      intro j h5 pl ct hj K5 S5 X05 X15 pc5 o5 B5
      have st5 := S5.1
      have ob5 := K5.obj
      have pl5 := K5.pl
      have ct5 := K5.ct
      obtain ⟨f, g, ⟨rb, -, -⟩, -⟩ := S5.2.1.raw
      obtain ⟨f2, g2, ⟨rm, -, -⟩, -⟩ := B5.raw
      have hp4 := zplc_le (σ := σ) (i := j)
      have nx : ∀ h6, zBl h6 (m + 1) 30 (zfr σ (j + 1)) → zOff (m + 1) (m + 4) h5 h6 → P 108 [some (.ref m), some (.ref s), some (.int (nI j))] [] h6 n 0 0 := by
        intro h6 B6 o6
        have k9 := ih (j + 1) h6 pl ct (by omega) (K5.of1 o6 (by omega) (by omega)) (S5.off o6 (by omega)) (X05.off o6 (by omega)) (X15.off o6 (by omega)) pc5 (o5.tr (o6.wd (by omega) (by omega))) B6
        rw [← zinc (j := j)] at k9
        refine hgo [44, 69] 60 _ _ _ _ _ _ _ ?_
        conv => whnf
        exact k9
      refine hgo [44, 69, 108] 60 _ _ _ _ _ _ _ ?_
      conv => whnf
      refine ⟨_, st5, _, rfl, ?_⟩
      conv => whnf
      refine ⟨_, rb, _, rfl, ?_⟩
      conv => whnf
      refine ⟨fun q => absurd q (nI_ge (show j < (zba σ).length by omega) (show (zba σ).length < 2 ^ 31 by omega)), fun _ => ?_⟩
      conv => whnf
      refine ⟨_, ob5, _, rfl, ?_⟩
      conv => whnf
      refine S_getC hC pl5 (by decide) (show j < 10 by omega) ?_
      rw [(pc5 j (by omega)).1]
      conv => whnf
      refine ⟨fun q => ?_, fun q => ?_⟩
      · have c2 : ¬ zplc σ j = 2 := fun z => q (by rw [z]; rfl)
        conv => whnf
        refine nx h5 ?_ zOff.rf
        rw [zfr_s, if_neg c2, List.append_nil]
        exact B5
      · have c2 : zplc σ j = 2 := nI_inj (b := 2) (by omega) (by decide) q
        conv => whnf
        refine ⟨_, ob5, _, rfl, ?_⟩
        conv => whnf
        refine ⟨_, ob5, _, rfl, ?_⟩
        conv => whnf
        refine S_getC hC ct5 (by decide) (show j < 10 by omega) ?_
        rw [(pc5 j (by omega)).2 (by omega)]
        conv => whnf
        refine ⟨_, rm, ?_⟩
        have hl := zfr_le (σ := σ) j
        have cb := zcnt_lt (σ := σ) (i := j) (fun d' w hw' => by
          obtain ⟨f5, g5, -, -, -, -, hw5⟩ := (S5.dr (d := d')).raw
          exact (hw5 w hw').2)
        refine S_X0_putLast hC B5 (by omega) ⟨by omega, cb⟩ (fun h6 B6 o6 => ?_)
        conv => whnf
        refine nx h6 ?_ (o6.wd (by omega) (by omega))
        rw [zfr_s, if_pos c2]
        exact B6
  have loop1 : ∀ e j (h5 : zH) (pl ct : Nat → Int32), j + e = (zba σ).length → zMk h5 m (zcfl σ j) pl ct → zDd h5 m s σ → (∀ i, i < j → pl i = nI (zplc σ i) ∧ (zplc σ i ≠ 3 → ct i = nI (zcnt σ i))) → zOff m (m + 14) h h5 → zBl h5 (m + 1) 30 [] → P 44 [some (.ref m), some (.ref s), some (.int (nI j))] [] h5 n 0 0 := by
    intro e
    induction e with
    | zero =>
      intro j h5 pl ct hj K5 D5 pc5 o5 B5
      have st5 := D5.1.1
      obtain ⟨f, g, ⟨rb, -, -⟩, -⟩ := D5.1.2.1.raw
      refine hgo [44, 69] 60 _ _ _ _ _ _ _ ?_
      conv => whnf
      refine ⟨_, st5, _, rfl, ?_⟩
      conv => whnf
      refine ⟨_, rb, _, rfl, ?_⟩
      conv => whnf
      refine ⟨fun _ => ?_, fun q => absurd (nI_le (show (zba σ).length ≤ j by omega) (show j < 2 ^ 31 by omega)) q⟩
      conv => whnf
      have ej : j = (zba σ).length := by omega
      rw [ej] at K5 pc5
      exact loop2 (zba σ).length 0 h5 pl ct (by omega) K5 D5.1 D5.2.2.1 D5.2.2.2.1 pc5 o5 B5
    | succ e ih =>
      intro j h5 pl ct hj K5 D5 pc5 o5 B5
      have st5 := D5.1.1
      have ob5 := K5.obj
      obtain ⟨f, g, ⟨rb, -, -⟩, -⟩ := D5.1.2.1.raw
      have hcl := zcfl_le (σ := σ) j
      refine hgo [44, 69] 60 _ _ _ _ _ _ _ ?_
      conv => whnf
      refine ⟨_, st5, _, rfl, ?_⟩
      conv => whnf
      refine ⟨_, rb, _, rfl, ?_⟩
      conv => whnf
      refine ⟨fun q => absurd q (nI_ge (show j < (zba σ).length by omega) (show (zba σ).length < 2 ^ 31 by omega)), fun _ => ?_⟩
      conv => whnf
      refine ⟨_, ob5, ?_⟩
      refine S_X4_decide hC K5 D5 (by omega) (by omega) (fun h6 pl6 ct6 K6 o6 a1 a2 a3 => ?_)
      have k9 := ih (j + 1) h6 pl6 ct6 (by omega) (by rw [zcfl_s]; exact K6) (D5.om o6) (fun i hi => by
        by_cases c : i = j
        · rw [c]; exact ⟨a1, a3⟩
        · rw [(a2 i c).1, (a2 i c).2]; exact pc5 i (by omega)) (o5.tr o6.wd) (o6.bl B5)
      rw [← zinc (j := j)] at k9
      conv => whnf
      exact k9
  exact loop1 (zba σ).length 0 h4 pl0 ct0 (by omega) M4 ⟨S4, W, X04, X14, hm⟩ (fun i hi => absurd hi (Nat.not_lt_zero _)) o14 B4
set_option maxRecDepth 100000 in
theorem S_X4_hasConflict {C : zK} (hC : zCld 215 zTT C) {h : zH} {n : Nat} {K : zQ} {m : Nat} {Q : zB} {pl ct : Nat → Int32} (H : zMk h m Q pl ct) {x : Int32} (H1 : ∀ j v, Q[j]? = some v → x = nI j → K 0 (some (.int 1)) h n) (H0 : (∀ j, j < Q.length → x ≠ nI j) → K 0 (some (.int 0)) h n) : C 49 [.ref m, .int x] h n K := by
  have hobj := H.obj
  have hQ : Q.length ≤ 30 := by
    obtain ⟨cb, ck, -, h2, -⟩ := H
    exact h2
  refine zd_X4_hasConflict hC rfl fun P hgo hF => ?_
  refine hgo [] 20 _ _ _ _ _ _ _ ?_
  conv => whnf
  refine ⟨fun q => ?_, fun q => ?_⟩
  · conv => whnf
    exact ⟨Or.inl rfl, H0 fun j hj e => nI_pos (show j < 2 ^ 31 by omega) (e ▸ q)⟩
  · conv => whnf
    refine ⟨_, hobj, _, rfl, ?_⟩
    conv => whnf
    refine ⟨fun q2 => ?_, fun q2 => ?_⟩
    · conv => whnf
      exact ⟨Or.inl rfl, H0 fun j hj e => nI_ge hj (show Q.length < 2 ^ 31 by omega) (e ▸ q2)⟩
    · conv => whnf
      obtain ⟨j, hj, e⟩ : ∃ j, j < Q.length ∧ x = nI j := by
        rcases pk_ix x (show Q.length < 2 ^ 31 by omega) with z | z | z
        · exact absurd z q
        · exact absurd z q2
        · exact z
      exact ⟨Or.inr rfl, H1 j Q[j] (List.getElem?_eq_getElem hj) e⟩
set_option maxRecDepth 100000 in
theorem S_X4_blockOfConflict {C : zK} (hC : zCld 215 zTT C) {h : zH} {n : Nat} {K : zQ} {m j : Nat} {Q : zB} {pl ct : Nat → Int32} {v : Nat × Nat} (H : zMk h m Q pl ct) (hv : Q[j]? = some v) (H1 : K 0 (some (.int (nI v.1))) h n) : C 50 [.ref m, .int (nI j)] h n K := by
  have hobj := H.obj
  obtain ⟨cb, ck, ⟨a1, a2, a3, a4, a5⟩, hl, hq⟩ := id H
  have hj := (List.getElem?_eq_some_iff.mp hv).1
  refine zd_X4_blockOfConflict hC rfl fun P hgo hF => ?_
  refine hgo [] 20 _ _ _ _ _ _ _ ?_
  conv => whnf
  refine ⟨_, hobj, _, rfl, ?_⟩
  conv => whnf
  refine S_getC hC a2 (by decide) (show j < 30 by omega) ?_
  rw [(hq j v hv).1]
  conv => whnf
  exact H1
set_option maxRecDepth 100000 in
theorem S_X4_kindOfConflict {C : zK} (hC : zCld 215 zTT C) {h : zH} {n : Nat} {K : zQ} {m j : Nat} {Q : zB} {pl ct : Nat → Int32} {v : Nat × Nat} (H : zMk h m Q pl ct) (hv : Q[j]? = some v) (H1 : K 0 (some (.int (nI v.2))) h n) : C 51 [.ref m, .int (nI j)] h n K := by
  have hobj := H.obj
  obtain ⟨cb, ck, ⟨a1, a2, a3, a4, a5⟩, hl, hq⟩ := id H
  have hj := (List.getElem?_eq_some_iff.mp hv).1
  refine zd_X4_kindOfConflict hC rfl fun P hgo hF => ?_
  refine hgo [] 20 _ _ _ _ _ _ _ ?_
  conv => whnf
  refine ⟨_, hobj, _, rfl, ?_⟩
  conv => whnf
  refine S_getC hC a3 (by decide) (show j < 30 by omega) ?_
  rw [(hq j v hv).2]
  conv => whnf
  exact H1

