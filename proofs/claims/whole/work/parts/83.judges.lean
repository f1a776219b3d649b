/-! The reference: judges -/
def zpR (k : Nat) : Int32 := if k = 3 then -1 else nI k
def zYp (h : zH) (r : Nat) (pl vl : Nat → Int32) : Prop := h (r + 9) = .inl (0, 10, .inl pl) ∧ h (r + 10) = .inl (0, 10, .inl vl)
/-- the reference while it merges -/
def zJ (h : zH) (r : Nat) (c : Nat → Int32) (σ : zS) (Q : zB) (pl vl : Nat → Int32) : Prop := zRr h r c σ ∧ (∀ d, d < 2 → zYk1 h r σ d) ∧ zYq h r c Q ∧ zYp h r pl vl
def zJo (r : Nat) (h h' : zH) : Prop := ∀ a, a ≠ r → a ≠ r + 7 → a ≠ r + 8 → a ≠ r + 9 → a ≠ r + 10 → h' a = h a
theorem zJo.tr {r : Nat} {h h1 h2 : zH} (a : zJo r h h1) (b : zJo r h1 h2) : zJo r h h2 := fun q z1 z2 z3 z4 z5 => (b q z1 z2 z3 z4 z5).trans (a q z1 z2 z3 z4 z5)
theorem zJo.rf {r : Nat} {h : zH} : zJo r h h := fun _ _ _ _ _ _ => rfl
def zJc (c c' : Nat → Int32) : Prop := ∀ j, j ≠ 12 → c' j = c j
theorem zJc.tr {c c1 c2 : Nat → Int32} (a : zJc c c1) (b : zJc c1 c2) : zJc c c2 := fun j h => (b j h).trans (a j h)
theorem zJc.rf {c : Nat → Int32} : zJc c c := fun _ _ => rfl
theorem zYk1.eq {h h' : zH} {r : Nat} {σ : zS} {d : Nat} (H : zYk1 h r σ d) (e : h' (r + 4) = h (r + 4)) : zYk1 h' r σ d := by
  obtain ⟨kf, k1, k2⟩ := H
  exact ⟨kf, e.trans k1, k2⟩
theorem zRr.eq2 {h h' : zH} {r : Nat} {c c' : Nat → Int32} {σ : zS} (H : zRr h r c σ) (e : h' r = zRO r c') (e1 : h' (r + 1) = h (r + 1)) : zRr h' r c' σ := by
  obtain ⟨h1, f, h2, h3⟩ := H
  exact ⟨e, f, e1.trans h2, h3⟩
theorem zYq.eq {h h' : zH} {r : Nat} {c c' : Nat → Int32} {Q : zB} (H : zYq h r c Q) (e : c' 12 = c 12) (e1 : h' (r + 7) = h (r + 7)) (e2 : h' (r + 8) = h (r + 8)) : zYq h' r c' Q := by
  obtain ⟨q1, q2, q3, af, kf, q4, q5, q6⟩ := H
  exact ⟨e.trans q1, q2, q3, af, kf, e1.trans q4, e2.trans q5, q6⟩
theorem zJ.ob {h : zH} {r : Nat} {c : Nat → Int32} {σ : zS} {Q : zB} {pl vl : Nat → Int32} (J : zJ h r c σ Q pl vl) : h r = zRO r c := J.1.1
theorem zJ.pp {h : zH} {r : Nat} {c : Nat → Int32} {σ : zS} {Q : zB} {pl vl : Nat → Int32} (J : zJ h r c σ Q pl vl) : h (r + 9) = .inl (0, 10, .inl pl) := J.2.2.2.1
theorem zJ.vv {h : zH} {r : Nat} {c : Nat → Int32} {σ : zS} {Q : zB} {pl vl : Nat → Int32} (J : zJ h r c σ Q pl vl) : h (r + 10) = .inl (0, 10, .inl vl) := J.2.2.2.2
theorem zJ.pl {h : zH} {r : Nat} {c : Nat → Int32} {σ : zS} {Q : zB} {pl vl f : Nat → Int32} (J : zJ h r c σ Q pl vl) : zJ (zupd h (r + 9) (.inl (0, 10, .inl f))) r c σ Q f vl := ⟨J.1.eq2 ((zupd_n (by omega)).trans J.ob) (zupd_n (by omega)), fun d hd => (J.2.1 d hd).eq (zupd_n (by omega)), J.2.2.1.eq rfl (zupd_n (by omega)) (zupd_n (by omega)), zupd_s, (zupd_n (by omega)).trans J.vv⟩
theorem zJ.vl {h : zH} {r : Nat} {c : Nat → Int32} {σ : zS} {Q : zB} {pl vl f : Nat → Int32} (J : zJ h r c σ Q pl vl) : zJ (zupd h (r + 10) (.inl (0, 10, .inl f))) r c σ Q pl f := ⟨J.1.eq2 ((zupd_n (by omega)).trans J.ob) (zupd_n (by omega)), fun d hd => (J.2.1 d hd).eq (zupd_n (by omega)), J.2.2.1.eq rfl (zupd_n (by omega)) (zupd_n (by omega)), (zupd_n (by omega)).trans J.pp, zupd_s⟩
theorem zJ.ch {h h' : zH} {r : Nat} {c c' : Nat → Int32} {σ : zS} {Q Q' : zB} {pl vl : Nat → Int32} (J : zJ h r c σ Q pl vl) (a : zRr h' r c' σ) (b : zYq h' r c' Q') (o : ∀ a, a ≠ r → a ≠ r + 7 → a ≠ r + 8 → h' a = h a) : zJ h' r c' σ Q' pl vl := ⟨a, fun d hd => (J.2.1 d hd).eq (o _ (by omega) (by omega) (by omega)), b, (o _ (by omega) (by omega) (by omega)).trans J.pp, (o _ (by omega) (by omega) (by omega)).trans J.vv⟩
theorem zJo.p9 {r : Nat} {h : zH} {x : zC} : zJo r h (zupd h (r + 9) x) := fun _ _ _ _ z _ => zupd_n z
theorem zJo.p10 {r : Nat} {h : zH} {x : zC} : zJo r h (zupd h (r + 10) x) := fun _ _ _ _ _ z => zupd_n z
theorem zJo.ch {r : Nat} {h h' : zH} (o : ∀ a, a ≠ r → a ≠ r + 7 → a ≠ r + 8 → h' a = h a) : zJo r h h' := fun a z1 z2 z3 _ _ => o a z1 z2 z3
set_option maxRecDepth 100000 in
theorem S_jchosen {C : zK} (hC : zCld 215 zTT C) {h : zH} {n : Nat} {K : zQ} {r i k : Nat} {c : Nat → Int32} {σ : zS} {Q : zB} {pl vl : Nat → Int32} (J : zJ h r c σ Q pl vl) (W : zwf σ) (hi : i < 10) (hk : k < 3) (hQ : Q.length < 20) (H1 : ∀ h' c', zJ h' r c' σ (Q ++ [(i, k + 1)]) pl vl → zJc c c' → zJo r h h' → K 0 (some (.int (nI (zcw σ i k)))) h' n) : C 158 [.ref r, .int (nI i), .int (nI (k + 1))] h n K := by
  refine S_X7_chosen hC J.1 J.2.2.1 hQ hi hk (fun h' c' g1 g2 g3 g4 => ?_)
  rw [zcw_ok W ⟨hi, hk⟩]
  exact H1 h' c' (J.ch g1 g2 g4) g3 (zJo.ch g4)
set_option maxRecDepth 100000 in
theorem S_jgP {C : zK} (hC : zCld 215 zTT C) {h : zH} {n : Nat} {K : zQ} {r i y0 y1 : Nat} {c : Nat → Int32} {σ : zS} {Q : zB} {pl vl : Nat → Int32} {P : zP} (hgo : zGo zT_X7_judges C K P) (hF : zfgt P) (J : zJ h r c σ Q pl vl) (W : zwf σ) (hi : i < (zba σ).length) (hQ : Q.length < 20) (e0 : zco (zdr σ 0) i = some y0) (e1 : zco (zdr σ 1) i = some y1) (H1 : ∀ h' c' pl', zJ h' r c' σ (Q ++ zkn3 σ i) pl' vl → zJc c c' → zJo r h h' → pl' i = nI (zplB σ i) → (∀ j, j ≠ i → pl' j = pl j) → K 0 none h' n) : P 210 [some (.ref r), some (.int (nI i)), none, none, none] [] h n 0 0 := by
  have hnb := J.1.bs
  have b1 := J.ob
  have k0 := J.2.1 0 (by decide)
  have k1 := J.2.1 1 (by decide)
  have fin : ∀ (x : Nat), zplB σ i = x → zkn3 σ i = [] → ∀ h', h' = zupd h (r + 9) (.inl (0, 10, .inl (upd pl i (nI x)))) → K 0 none h' n := by
    intro x hx hq h' e
    rw [e]
    refine H1 _ c (upd pl i (nI x)) ?_ zJc.rf zJo.p9 (by rw [upd_s, hx]) (fun j hj => upd_n hj)
    rw [hq, List.append_nil]
    exact J.pl
  unfold zplB zkn3 at fin
  unfold zplB zkn3 at H1
  refine hgo [] 60 _ _ _ _ _ _ _ ?_
  conv => whnf
  refine ⟨_, b1, ?_⟩
  refine S_X7_doesMove hC J.1 k0 (by decide) hi (fun m0 => ?_) (fun m0 => ?_)
  · conv => whnf
    refine ⟨fun z => absurd z (by decide), fun _ => ?_⟩
    conv => whnf
    refine ⟨_, b1, ?_⟩
    refine S_X7_doesMove hC J.1 k1 (by decide) hi (fun m1 => ?_) (fun m1 => ?_)
    · conv => whnf
      refine ⟨fun z => absurd z (by decide), fun _ => ?_⟩
      conv => whnf
      refine ⟨fun z => absurd z (by decide), fun _ => ?_⟩
      conv => whnf
      refine ⟨_, b1, _, rfl, ?_⟩
      conv => whnf
      refine ⟨_, b1, ?_⟩
      refine S_X7_ahead hC J.1 (d := 0) (by decide) (by omega) ⟨y0, e0⟩ ?_
      conv => whnf
      refine ⟨_, b1, ?_⟩
      refine S_X7_ahead hC J.1 (d := 1) (by decide) (by omega) ⟨y1, e1⟩ ?_
      conv => whnf
      rw [if_pos m0, if_pos m1] at fin
      rw [if_pos m0, if_pos m1] at H1
      refine ⟨fun q => ?_, fun q => ?_⟩
      · have q' : ¬ zah (zd0 σ) i = zah (zd1 σ) i := q
        rw [if_neg q', if_pos ⟨m0, m1, q'⟩] at H1
        conv => whnf
        refine ⟨_, b1, ?_⟩
        refine S_jchosen hC J W (k := 2) (by omega) (by decide) hQ (fun h' c' J' c9 o9 => ?_)
        have pp := J'.pp
        conv => whnf
        refine ⟨_, _, pp, vp_in_nI (show i < 10 by omega) (by decide), ?_⟩
        rw [nI_clamp (show i < 2 ^ 31 by omega)]
        conv => whnf
        exact H1 _ c' (upd pl i (nI (zcw σ i 2))) J'.pl c9 (o9.tr zJo.p9) upd_s (fun j hj => upd_n hj)
      · have q' : zah (zd0 σ) i = zah (zd1 σ) i := q
        have pp := J.pp
        conv => whnf
        refine ⟨_, _, pp, vp_in_nI (show i < 10 by omega) (by decide), ?_⟩
        rw [nI_clamp (show i < 2 ^ 31 by omega)]
        conv => whnf
        refine fin 0 (if_pos q') (if_neg fun z => z.2.2 q') _ rfl
    · conv => whnf
      refine ⟨fun _ => ?_, fun z => absurd rfl z⟩
      conv => whnf
      refine ⟨fun _ => ?_, fun z => absurd rfl z⟩
      conv => whnf
      refine ⟨_, b1, _, rfl, ?_⟩
      conv => whnf
      refine ⟨_, b1, ?_⟩
      refine S_X7_doesMove hC J.1 k0 (by decide) hi (fun _ => ?_) (fun z => absurd m0 z)
      conv => whnf
      refine ⟨fun z => absurd z (by decide), fun _ => ?_⟩
      have pp := J.pp
      conv => whnf
      refine ⟨_, _, pp, vp_in_nI (show i < 10 by omega) (by decide), ?_⟩
      rw [nI_clamp (show i < 2 ^ 31 by omega)]
      conv => whnf
      refine fin 0 ?_ (if_neg fun z => m1 z.2.1) _ rfl
      rw [if_pos m0, if_neg m1]
  · conv => whnf
    refine ⟨fun _ => ?_, fun z => absurd rfl z⟩
    conv => whnf
    refine ⟨fun _ => ?_, fun z => absurd rfl z⟩
    conv => whnf
    refine ⟨_, b1, _, rfl, ?_⟩
    conv => whnf
    refine ⟨_, b1, ?_⟩
    refine S_X7_doesMove hC J.1 k0 (by decide) hi (fun z => absurd z m0) (fun _ => ?_)
    conv => whnf
    refine ⟨fun _ => ?_, fun z => absurd rfl z⟩
    conv => whnf
    refine ⟨_, b1, ?_⟩
    refine S_X7_doesMove hC J.1 k1 (by decide) hi (fun m1 => ?_) (fun m1 => ?_)
    · conv => whnf
      refine ⟨fun z => absurd z (by decide), fun _ => ?_⟩
      have pp := J.pp
      conv => whnf
      refine ⟨_, _, pp, vp_in_nI (show i < 10 by omega) (by decide), ?_⟩
      rw [nI_clamp (show i < 2 ^ 31 by omega)]
      conv => whnf
      refine fin 1 ?_ (if_neg fun z => m0 z.1) _ rfl
      rw [if_neg m0, if_pos m1]
    · conv => whnf
      refine ⟨fun _ => ?_, fun z => absurd rfl z⟩
      have pp := J.pp
      conv => whnf
      refine ⟨_, _, pp, vp_in_nI (show i < 10 by omega) (by decide), ?_⟩
      rw [nI_clamp (show i < 2 ^ 31 by omega)]
      conv => whnf
      refine fin 2 ?_ (if_neg fun z => m0 z.1) _ rfl
      rw [if_neg m0, if_neg m1]
theorem zyx_at {σ : zS} {d i y : Nat} (e : zco (zdr σ d) i = some y) : zyx σ d i = y := by
  unfold zyx zyv
  rw [e]
  rfl
set_option maxRecDepth 100000 in
theorem S_jgV {C : zK} (hC : zCld 215 zTT C) {h : zH} {n : Nat} {K : zQ} {r i y0 y1 : Nat} {c : Nat → Int32} {σ : zS} {Q : zB} {pl vl : Nat → Int32} {P : zP} (hgo : zGo zT_X7_judges C K P) (hF : zfgt P) (J : zJ h r c σ Q pl vl) (W : zwf σ) (hi : i < (zba σ).length) (hQ : Q.length < 20) (e0 : zco (zdr σ 0) i = some y0) (e1 : zco (zdr σ 1) i = some y1) (hv : vl i = nI (zbc (zba σ) i)) (G : ∀ h' c' vl', zJ h' r c' σ (Q ++ zkn1 σ i) pl vl' → zJc c c' → zJo r h h' → vl' i = nI (zcnB σ i) → (∀ j, j ≠ i → vl' j = vl j) → P 210 [some (.ref r), some (.int (nI i)), none, none, none] [] h' n 0 0) : P 114 [some (.ref r), some (.int (nI i)), none, none, none] [] h n 0 0 := by
  have hnb := J.1.bs
  have b1 := J.ob
  have ey0 := zyx_at e0
  have ey1 := zyx_at e1
  have hy0 := zco_lt (J.1.lt 0) e0
  have hy1 := zco_lt (J.1.lt 1) e1
  have vv := J.vv
  have put : ∀ (d : Nat) (y : Nat), (d = 0 → zed (zcx σ 0 i) = true) → (d = 1 → ¬ zed (zcx σ 0 i) = true) → d < 2 → zco (zdr σ d) i = some y → zcnB σ i = y → zkn1 σ i = [] → P 185 [some (.ref r), some (.int (nI i)), none, none, none] [] h n 0 0 := by
    intro d y h0 h1 hd e g1 g2
    have k9 := G (zupd h (r + 10) (.inl (0, 10, .inl (upd vl i (nI y))))) c (upd vl i (nI y)) (by rw [g2, List.append_nil]; exact J.vl) zJc.rf zJo.p10 (by rw [upd_s, g1]) (fun j hj => upd_n hj)
    refine hgo [210] 60 _ _ _ _ _ _ _ ?_
    conv => whnf
    refine ⟨_, b1, _, rfl, ?_⟩
    conv => whnf
    refine ⟨_, b1, ?_⟩
    rcases (by omega : d = 0 ∨ d = 1) with ed | ed
    · rw [ed] at e
      refine S_X7_doesEdit hC J.1 (d := 0) (by decide) hi (fun _ => ?_) (fun z => absurd (h0 ed) z)
      conv => whnf
      refine ⟨fun z => absurd z (by decide), fun _ => ?_⟩
      conv => whnf
      refine ⟨_, b1, ?_⟩
      refine S_X7_contentIn hC J.1 (d := 0) (by decide) (by omega) e ?_
      conv => whnf
      refine ⟨_, _, vv, vp_in_nI (show i < 10 by omega) (by decide), ?_⟩
      rw [nI_clamp (show i < 2 ^ 31 by omega)]
      conv => whnf
      exact k9
    · rw [ed] at e
      refine S_X7_doesEdit hC J.1 (d := 0) (by decide) hi (fun z => absurd z (h1 ed)) (fun _ => ?_)
      conv => whnf
      refine ⟨fun _ => ?_, fun z => absurd rfl z⟩
      conv => whnf
      refine ⟨_, b1, ?_⟩
      refine S_X7_contentIn hC J.1 (d := 1) (by decide) (by omega) e ?_
      conv => whnf
      refine ⟨_, _, vv, vp_in_nI (show i < 10 by omega) (by decide), ?_⟩
      rw [nI_clamp (show i < 2 ^ 31 by omega)]
      conv => whnf
      exact k9
  unfold zcnB zkn1 at put
  unfold zcnB zkn1 at G
  rw [ey0, ey1] at put G
  by_cases d0 : zed (zcx σ 0 i) = true
  · have p185 : ¬ (zed (zcx σ 1 i) = true ∧ y0 ≠ y1) → P 185 [some (.ref r), some (.int (nI i)), none, none, none] [] h n 0 0 := fun hn => put 0 y0 (fun _ => d0) (fun z => absurd z (by decide)) (by decide) e0 (by rw [if_pos d0, if_neg hn]) (if_neg fun z => hn z.2)
    have p167 : ¬ (zed (zcx σ 1 i) = true ∧ y0 ≠ y1) → P 167 [some (.ref r), some (.int (nI i)), none, none, none] [] h n 0 0 := by
      intro hn
      have k9 := p185 hn
      refine hgo [185, 210] 60 _ _ _ _ _ _ _ ?_
      conv => whnf
      refine ⟨_, b1, ?_⟩
      refine S_X7_doesEdit hC J.1 (d := 0) (by decide) hi (fun _ => ?_) (fun z => absurd d0 z)
      conv => whnf
      refine ⟨fun _ => ?_, fun z => absurd z (by decide)⟩
      conv => whnf
      exact k9
    refine hgo [167, 185, 210] 60 _ _ _ _ _ _ _ ?_
    conv => whnf
    refine ⟨_, b1, ?_⟩
    refine S_X7_doesEdit hC J.1 (d := 0) (by decide) hi (fun _ => ?_) (fun z => absurd d0 z)
    conv => whnf
    refine ⟨fun z => absurd z (by decide), fun _ => ?_⟩
    conv => whnf
    refine ⟨_, b1, ?_⟩
    refine S_X7_doesEdit hC J.1 (d := 1) (by decide) hi (fun d1 => ?_) (fun d1 => ?_)
    · conv => whnf
      refine ⟨fun z => absurd z (by decide), fun _ => ?_⟩
      conv => whnf
      refine ⟨_, b1, ?_⟩
      refine S_X7_contentIn hC J.1 (d := 0) (by decide) (by omega) e0 ?_
      conv => whnf
      refine ⟨_, b1, ?_⟩
      refine S_X7_contentIn hC J.1 (d := 1) (by decide) (by omega) e1 ?_
      conv => whnf
      refine ⟨fun q => ?_, fun q => ?_⟩
      · have k9 := p167 (fun z => z.2 (nI_inj (by omega) (by omega) q))
        conv => whnf
        exact k9
      · have hne : y0 ≠ y1 := fun z => q (by rw [z])
        rw [if_pos (show zed (zcx σ 0 i) = true ∧ zed (zcx σ 1 i) = true ∧ y0 ≠ y1 from ⟨d0, d1, hne⟩), if_pos d0, if_pos (show zed (zcx σ 1 i) = true ∧ y0 ≠ y1 from ⟨d1, hne⟩)] at G
        conv => whnf
        refine ⟨_, b1, _, rfl, ?_⟩
        conv => whnf
        refine ⟨_, b1, ?_⟩
        refine S_jchosen hC J W (k := 0) (by omega) (by decide) hQ (fun h' c' J' c9 o9 => ?_)
        have b9 := J'.ob
        have v9 := J'.vv
        conv => whnf
        refine ⟨_, b9, ?_⟩
        have hcl := zcw_le (σ := σ) (i := i) (k := 0)
        rcases (by omega : zcw σ i 0 = 0 ∨ zcw σ i 0 = 1) with ec | ec
        · rw [ec] at G ⊢
          refine S_X7_contentIn hC J'.1 (d := 0) (by decide) (by omega) e0 ?_
          conv => whnf
          refine ⟨_, _, v9, vp_in_nI (show i < 10 by omega) (by decide), ?_⟩
          rw [nI_clamp (show i < 2 ^ 31 by omega)]
          conv => whnf
          exact G _ c' (upd vl i (nI y0)) J'.vl c9 (o9.tr zJo.p10) upd_s (fun j hj => upd_n hj)
        · rw [ec] at G ⊢
          refine S_X7_contentIn hC J'.1 (d := 1) (by decide) (by omega) e1 ?_
          conv => whnf
          refine ⟨_, _, v9, vp_in_nI (show i < 10 by omega) (by decide), ?_⟩
          rw [nI_clamp (show i < 2 ^ 31 by omega)]
          conv => whnf
          exact G _ c' (upd vl i (nI y1)) J'.vl c9 (o9.tr zJo.p10) upd_s (fun j hj => upd_n hj)
    · have k9 := p167 (fun z => d1 z.1)
      conv => whnf
      refine ⟨fun _ => ?_, fun z => absurd rfl z⟩
      conv => whnf
      exact k9
  · refine hgo [167, 185, 210] 60 _ _ _ _ _ _ _ ?_
    conv => whnf
    refine ⟨_, b1, ?_⟩
    refine S_X7_doesEdit hC J.1 (d := 0) (by decide) hi (fun z => absurd z d0) (fun _ => ?_)
    conv => whnf
    refine ⟨fun _ => ?_, fun z => absurd rfl z⟩
    conv => whnf
    refine hgo [185, 210] 60 _ _ _ _ _ _ _ ?_
    conv => whnf
    refine ⟨_, b1, ?_⟩
    refine S_X7_doesEdit hC J.1 (d := 0) (by decide) hi (fun z => absurd z d0) (fun _ => ?_)
    conv => whnf
    refine ⟨fun z => absurd rfl z, fun _ => ?_⟩
    conv => whnf
    refine ⟨_, b1, ?_⟩
    refine S_X7_doesEdit hC J.1 (d := 1) (by decide) hi (fun d1 => ?_) (fun d1 => ?_)
    · have k9 := put 1 y1 (fun z => absurd z (by decide)) (fun _ => d0) (by decide) e1 (if_neg d0) (if_neg fun z => d0 z.1)
      conv => whnf
      refine ⟨fun z => absurd z (by decide), fun _ => ?_⟩
      conv => whnf
      exact k9
    · have ey : y1 = zbc (zba σ) i := Classical.byContradiction fun z => d1 (zed_cx.mpr ⟨y1, e1, z⟩)
      have k9 := G h c vl (by rw [if_neg fun z => d0 z.1, List.append_nil]; exact J) zJc.rf zJo.rf (by rw [if_neg d0, hv, ey]) (fun _ _ => rfl)
      conv => whnf
      refine ⟨fun _ => ?_, fun z => absurd rfl z⟩
      conv => whnf
      exact k9
set_option maxRecDepth 100000 in
theorem S_X7_judges {C : zK} (hC : zCld 215 zTT C) {h : zH} {n : Nat} {K : zQ} {r i : Nat} {c : Nat → Int32} {σ : zS} {Q : zB} {pl vl : Nat → Int32} (J : zJ h r c σ Q pl vl) (W : zwf σ) (hi : i < (zba σ).length) (hQ : Q.length < 19) (H1 : ∀ h' c' pl' vl', zJ h' r c' σ (Q ++ zknd σ i) pl' vl' → zJc c c' → zJo r h h' → pl' i = zpR (zplc σ i) → (∀ j, j ≠ i → pl' j = pl j ∧ vl' j = vl j) → (zplc σ i ≠ 3 → vl' i = nI (zcnt σ i)) → K 0 none h' n) : C 160 [.ref r, .int (nI i)] h n K := by
  have hnb := J.1.bs
  have b1 := J.ob
  have pp := J.pp
  refine zd_X7_judges hC rfl fun P hgo hF => ?_
  refine hgo [21] 60 _ _ _ _ _ _ _ ?_
  conv => whnf
  refine ⟨_, b1, _, rfl, ?_⟩
  conv => whnf
  refine ⟨_, _, pp, vp_in_nI (show i < 10 by omega) (by decide), ?_⟩
  rw [nI_clamp (show i < 2 ^ 31 by omega)]
  conv => whnf
  have J2 : zJ (zupd h (r + 9) (.inl (0, 10, .inl (upd pl i (-1))))) r c σ Q (upd pl i (-1)) vl := J.pl
  have o2 : zJo r h (zupd h (r + 9) (.inl (0, 10, .inl (upd pl i (-1))))) := zJo.p9
  generalize zupd h (r + 9) (.inl (0, 10, .inl (upd pl i (-1)))) = h2 at J2 o2 ⊢
  obtain ⟨g1, f, g2, g3⟩ := id J2.1
  have v2 := J2.vv
  refine ⟨_, g1, _, rfl, ?_⟩
  conv => whnf
  refine ⟨_, g1, _, rfl, ?_⟩
  conv => whnf
  rw [show (2 : Int32) + nI i = nI (2 + i) from nI_add 2 i]
  refine ⟨_, _, g2, vp_in_nI (show 2 + i < 106 by omega) (by decide), ?_⟩
  rw [nI_clamp (show 2 + i < 2 ^ 31 by omega), (g3.bc hi).1]
  conv => whnf
  refine ⟨_, _, v2, vp_in_nI (show i < 10 by omega) (by decide), ?_⟩
  rw [nI_clamp (show i < 2 ^ 31 by omega)]
  conv => whnf
  have J3 : zJ (zupd h2 (r + 10) (.inl (0, 10, .inl (upd vl i (nI (zbc (zba σ) i)))))) r c σ Q (upd pl i (-1)) (upd vl i (nI (zbc (zba σ) i))) := J2.vl
  have o3 : zJo r h (zupd h2 (r + 10) (.inl (0, 10, .inl (upd vl i (nI (zbc (zba σ) i)))))) := o2.tr zJo.p10
  refine (show ∀ h3, zJ h3 r c σ Q (upd pl i (-1)) (upd vl i (nI (zbc (zba σ) i))) → zJo r h h3 → P 21 [some (.ref r), some (.int (nI i)), none, none, none] [] h3 n 0 0 from ?_) _ J3 o3
  clear J3 o3
  intro h3 J3 o3
  have w1 := J3.ob
  have vi : upd vl i (nI (zbc (zba σ) i)) i = nI (zbc (zba σ) i) := upd_s
  have pi : upd pl i (-1) i = -1 := upd_s
  have hpv : ∀ j, j ≠ i → upd pl i (-1) j = pl j ∧ upd vl i (nI (zbc (zba σ) i)) j = vl j := fun j hj => ⟨upd_n hj, upd_n hj⟩
  generalize upd vl i (nI (zbc (zba σ) i)) = vl3 at J3 vi hpv
  generalize upd pl i (-1) = pl3 at J3 pi hpv
  have one : ∀ d y, d < 2 → zco (zdr σ d) i = some y → zplc σ i = zplR σ d i → zknd σ i = zkn2 σ d i → zcnt σ i = zyx σ d i → P 51 [some (.ref r), some (.int (nI i)), none, none, some (.int (nI d))] [] h3 n 0 0 := by
    intro d y hd e t1 t2 t3
    have ey := zyx_at e
    rw [t1, t2, t3, ey] at H1
    unfold zkn2 zplR at H1
    refine hgo [] 60 _ _ _ _ _ _ _ ?_
    conv => whnf
    refine ⟨_, w1, ?_⟩
    refine S_X7_doesEdit hC J3.1 hd hi (fun d1 => ?_) (fun d1 => ?_)
    · rw [if_pos d1] at H1
      conv => whnf
      refine ⟨fun z => absurd z (by decide), fun _ => ?_⟩
      conv => whnf
      refine ⟨_, w1, ?_⟩
      refine S_jchosen hC J3 W (k := 1) (by omega) (by decide) (by omega) (fun h' c' J' c9 o9 => ?_)
      have b9 := J'.ob
      have v9 := J'.vv
      conv => whnf
      refine ⟨fun q => ?_, fun q => ?_⟩
      · have hq : zcw σ i 1 = d := nI_inj (by have := zcw_le (σ := σ) (i := i) (k := 1); omega) (by omega) q
        rw [if_pos ⟨d1, hq⟩] at H1
        conv => whnf
        refine ⟨_, b9, _, rfl, ?_⟩
        conv => whnf
        refine ⟨_, b9, ?_⟩
        refine S_X7_contentIn hC J'.1 hd (by omega) e ?_
        conv => whnf
        refine ⟨_, _, v9, vp_in_nI (show i < 10 by omega) (by decide), ?_⟩
        rw [nI_clamp (show i < 2 ^ 31 by omega)]
        conv => whnf
        have J4 : zJ (zupd h' (r + 10) (.inl (0, 10, .inl (upd vl3 i (nI y))))) r c' σ (Q ++ [(i, 2)]) pl3 (upd vl3 i (nI y)) := J'.vl
        have o4 : zJo r h (zupd h' (r + 10) (.inl (0, 10, .inl (upd vl3 i (nI y))))) := (o3.tr o9).tr zJo.p10
        generalize zupd h' (r + 10) (.inl (0, 10, .inl (upd vl3 i (nI y)))) = h4 at J4 o4 ⊢
        have b4 := J4.ob
        have p4 := J4.pp
        refine ⟨_, b4, _, rfl, ?_⟩
        conv => whnf
        refine ⟨_, b4, ?_⟩
        refine S_X7_doesMove hC J4.1 (J4.2.1 d hd) hd hi (fun m1 => ?_) (fun m1 => ?_)
        · rw [if_pos m1] at H1
          conv => whnf
          refine ⟨fun z => absurd z (by decide), fun _ => ?_⟩
          conv => whnf
          refine ⟨_, _, p4, vp_in_nI (show i < 10 by omega) (by decide), ?_⟩
          rw [nI_clamp (show i < 2 ^ 31 by omega)]
          conv => whnf
          refine H1 _ c' (upd pl3 i (nI d)) (upd vl3 i (nI y)) J4.pl c9 (o4.tr zJo.p9) ?_ (fun j hj => ⟨(upd_n hj).trans (hpv j hj).1, (upd_n hj).trans (hpv j hj).2⟩) (fun _ => upd_s)
          rw [upd_s]
          unfold zpR
          rw [if_neg (by omega)]
        · rw [if_neg m1] at H1
          conv => whnf
          refine ⟨fun _ => ?_, fun z => absurd rfl z⟩
          conv => whnf
          refine ⟨_, _, p4, vp_in_nI (show i < 10 by omega) (by decide), ?_⟩
          rw [nI_clamp (show i < 2 ^ 31 by omega)]
          conv => whnf
          exact H1 _ c' (upd pl3 i (nI 2)) (upd vl3 i (nI y)) J4.pl c9 (o4.tr zJo.p9) upd_s (fun j hj => ⟨(upd_n hj).trans (hpv j hj).1, (upd_n hj).trans (hpv j hj).2⟩) (fun _ => upd_s)
      · have hq : ¬ zcw σ i 1 = d := fun z => q (by rw [z])
        rw [if_neg (fun z => hq z.2)] at H1
        conv => whnf
        exact H1 _ c' pl3 vl3 J' c9 (o3.tr o9) pi hpv (fun z => absurd rfl z)
    · rw [if_neg d1, if_neg (fun z => d1 z.1), List.append_nil] at H1
      conv => whnf
      refine ⟨fun _ => ?_, fun z => absurd rfl z⟩
      conv => whnf
      exact H1 _ c pl3 vl3 J3 zJc.rf o3 pi hpv (fun z => absurd rfl z)
  unfold zplc zknd zcnt at one
  unfold zplc zknd zcnt at H1
  refine hgo [51, 114] 60 _ _ _ _ _ _ _ ?_
  conv => whnf
  refine ⟨_, w1, ?_⟩
  refine S_X7_has hC J3.1 (d := 0) (by decide) (by omega) (fun y0 e0 => ?_) (fun e0 => ?_)
  · have n0 : ¬ zcx σ 0 i = 4 := fun z => by
      rw [zcx_at e0] at z
      have h5 : (if y0 = zbc (zba σ) i then 0 else 1) + (if i ∈ zkept (zba σ).length (zdr σ 0) then 0 else 2) < 4 := by
        split <;> split <;> decide
      omega
    rw [if_neg n0, if_neg n0, if_neg n0] at one H1
    conv => whnf
    refine ⟨_, w1, ?_⟩
    refine S_X7_has hC J3.1 (d := 1) (by decide) (by omega) (fun y1 e1 => ?_) (fun e1 => ?_)
    · have n1 : ¬ zcx σ 1 i = 4 := fun z => by
        rw [zcx_at e1] at z
        have h5 : (if y1 = zbc (zba σ) i then 0 else 1) + (if i ∈ zkept (zba σ).length (zdr σ 1) then 0 else 2) < 4 := by
          split <;> split <;> decide
        omega
      rw [if_neg n1, if_neg n1, if_neg n1] at H1
      conv => whnf
      refine ⟨fun _ => ?_, fun z => absurd rfl z⟩
      conv => whnf
      refine ⟨fun _ => ?_, fun z => absurd z (by decide)⟩
      have k9 := S_jgV hC hgo hF J3 W hi (by omega) e0 e1 vi (fun h4 c4 vl4 J4 c9 o9 v4 v5 => by
        have hl4 : (Q ++ zkn1 σ i).length < 20 := by
          rw [List.length_append]
          have := zkn1_le (σ := σ) (i := i)
          omega
        exact S_jgP hC hgo hF J4 W hi hl4 e0 e1 (fun h5 c5 pl5 J5 c10 o10 p5 p6 => H1 h5 c5 pl5 vl4 (by rw [← List.append_assoc]; exact J5) (c9.tr c10) ((o3.tr o9).tr o10) (by
          rw [p5]
          unfold zpR
          rw [if_neg]
          unfold zplB
          have := zcw_le (σ := σ) (i := i) (k := 2)
          split
          · split
            · split <;> omega
            · decide
          · split <;> decide) (fun j hj => ⟨(p6 j hj).trans (hpv j hj).1, (v5 j hj).trans (hpv j hj).2⟩) (fun _ => v4)))
      conv => whnf
      refine hF _ _ _ _ _ _ _ _ ?_ k9
      repeat (first | exact zf_0 | refine zf_s ?_ | refine zf_n ?_)
    · have n1 : zcx σ 1 i = 4 := zcx_no e1
      rw [if_pos n1, if_pos n1, if_pos n1] at one
      have k9 := one 0 y0 (by decide) e0 rfl rfl rfl
      conv => whnf
      refine ⟨fun z => absurd z (by decide), fun _ => ?_⟩
      conv => whnf
      refine ⟨fun z => absurd z (by decide), fun _ => ?_⟩
      conv => whnf
      refine hF _ _ _ _ _ _ _ _ ?_ k9
      repeat (first | exact zf_0 | refine zf_s ?_ | refine zf_n ?_)
  · have n0 : zcx σ 0 i = 4 := zcx_no e0
    rw [if_pos n0, if_pos n0, if_pos n0] at one H1
    conv => whnf
    refine ⟨_, w1, ?_⟩
    refine S_X7_has hC J3.1 (d := 1) (by decide) (by omega) (fun y1 e1 => ?_) (fun e1 => ?_)
    · have n1 : ¬ zcx σ 1 i = 4 := fun z => by
        rw [zcx_at e1] at z
        have h5 : (if y1 = zbc (zba σ) i then 0 else 1) + (if i ∈ zkept (zba σ).length (zdr σ 1) then 0 else 2) < 4 := by
          split <;> split <;> decide
        omega
      rw [if_neg n1, if_neg n1] at one
      have k9 := one 1 y1 (by decide) e1 rfl rfl rfl
      conv => whnf
      refine ⟨fun z => absurd z (by decide), fun _ => ?_⟩
      conv => whnf
      refine ⟨fun _ => ?_, fun z => absurd rfl z⟩
      conv => whnf
      refine hF _ _ _ _ _ _ _ _ ?_ k9
      repeat (first | exact zf_0 | refine zf_s ?_ | refine zf_n ?_)
    · have n1 : zcx σ 1 i = 4 := zcx_no e1
      rw [if_pos n1, if_pos n1, List.append_nil] at H1
      conv => whnf
      refine ⟨fun _ => ?_, fun z => absurd rfl z⟩
      conv => whnf
      refine ⟨fun z => absurd rfl z, fun _ => ?_⟩
      conv => whnf
      exact H1 h3 c pl3 vl3 J3 zJc.rf o3 pi hpv (fun z => absurd rfl z)

