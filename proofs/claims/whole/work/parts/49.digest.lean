/-! The whole program: digest, similarity -/
def zmx (x : Int64) (v : Int32) : Int64 := 31 * x + v.toInt64
def zmB : Int64 → zB → Int64
  | x, [] => x
  | x, v :: L => zmB (zmx (zmx x (nI v.1)) (nI v.2)) L
set_option maxRecDepth 100000 in
theorem S_X6_mixed {C : zK} (hC : zCld 215 zTT C) {h : zH} {n : Nat} {K : zQ} {x : Int64} {v : Int32} (H1 : K 0 (some (.long (zmx x v))) h n) : C 106 [.long x, .int v] h n K := by
  refine zd_X6_mixed hC rfl fun P hgo hF => ?_
  refine hgo [] 20 _ _ _ _ _ _ _ ?_
  conv => whnf
  exact H1
set_option maxRecDepth 100000 in
theorem S_X6_mixedWithBlocks {C : zK} (hC : zCld 215 zTT C) {h : zH} {n : Nat} {K : zQ} {b N : Nat} {L : zB} {x : Int64} (hB : zBl h b N L) (H1 : K 0 (some (.long (zmB x L))) h n) : C 105 [.long x, .ref b] h n K := by
  obtain ⟨f, g, ⟨r1, -, -⟩, hlen, hN, -⟩ := hB.raw
  refine zd_X6_mixedWithBlocks hC rfl fun P hgo hF => ?_
  have loop : ∀ e j (r : Int64), j + e = L.length → zmB r (L.drop j) = zmB x L → P 5 [some (.long x), none, some (.ref b), some (.long r), none, some (.int (nI j))] [] h n 0 0 := by
    intro e
    induction e with
    | zero =>
      intro j r hj hr
      rw [List.drop_of_length_le (by omega)] at hr
      refine hgo [5] 40 _ _ _ _ _ _ _ ?_
      conv => whnf
      refine ⟨_, r1, _, rfl, ?_⟩
      conv => whnf
      refine ⟨fun _ => ?_, fun q => absurd (nI_le (show L.length ≤ j by omega) (show j < 2 ^ 31 by omega)) q⟩
      conv => whnf
      rw [← hr] at H1
      exact H1
    | succ e ih =>
      intro j r hj hr
      obtain ⟨v, hv⟩ : ∃ v, L[j]? = some v := ⟨L[j], List.getElem?_eq_getElem (by omega)⟩
      rw [zdrop hv] at hr
      have k9 := ih (j + 1) (zmx (zmx r (nI v.1)) (nI v.2)) (by omega) hr
      rw [← zinc (j := j)] at k9
      refine hgo [5] 40 _ _ _ _ _ _ _ ?_
      conv => whnf
      refine ⟨_, r1, _, rfl, ?_⟩
      conv => whnf
      refine ⟨fun q => absurd q (nI_ge (show j < L.length by omega) (show L.length < 2 ^ 31 by omega)), fun _ => ?_⟩
      conv => whnf
      refine ⟨_, r1, ?_⟩
      refine S_numAt hC hB hv ?_
      conv => whnf
      refine S_X6_mixed hC ?_
      conv => whnf
      refine ⟨_, r1, ?_⟩
      refine S_conAt hC hB hv ?_
      conv => whnf
      refine S_X6_mixed hC ?_
      conv => whnf
      exact k9
  refine hgo [5] 40 _ _ _ _ _ _ _ ?_
  conv => whnf
  exact loop L.length 0 x (by omega) rfl
def zdgA (σ : zS) : Int64 := zmx (zmx (zmx (zmx (zmx 8129 (nI (zba σ).length)) (nI (zmer σ).length)) (nI (zQ0 σ).length)) (nI (zopn σ (zQ0 σ)))) (nI (zac σ))
def zdgB (σ : zS) : Int64 := zmB (zmx (zmB (zmx (zdgA σ) (nI (zd0 σ).length)) (zd0 σ)) (nI (zd1 σ).length)) (zd1 σ)
def zdgC (σ : zS) : Nat → Int64
  | 0 => zdgB σ
  | j + 1 => zmx (zmx (zdgC σ j) (nI (zcx σ 0 j))) (nI (zcx σ 1 j))
def zdg (σ : zS) : Int64 := zmB (zmB (zdgC σ (zba σ).length) (zmer σ)) (zQ0 σ)
set_option maxRecDepth 100000 in
theorem S_X6_digest {C : zK} (hC : zCld 215 zTT C) {h : zH} {n : Nat} {K : zQ} {A : zA} (H : zX h A) (H1 : ∀ h', zX h' A → zOff 0 96 h h' → K 0 (some (.long (zdg A.1))) h' n) : C 104 [.ref 0] h n K := by
  have hob := H.1
  have hq := zQ0_le H
  have hnb := H.bl
  obtain ⟨fs, hmo⟩ := H.mo
  refine zd_X6_digest hC rfl fun P hgo hF => ?_
  refine hgo [135, 201] 90 _ _ _ _ _ _ _ ?_
  conv => whnf
  refine ⟨_, hob, _, rfl, ?_⟩
  conv => whnf
  refine ⟨_, hob, _, rfl, ?_⟩
  conv => whnf
  refine ⟨_, hmo, ?_⟩
  refine S_xmake hC H (fun h2 H2 M2 o2 => ?_)
  replace H1 := H1 h2 H2 o2
  have ob2 := H2.1
  have st2 := H2.st.1
  obtain ⟨⟨pl, ct, MK⟩, MB, MX0, MX1⟩ := M2
  have mo2 := MK.obj
  obtain ⟨fb, gb, ⟨rb, -, -⟩, hlb, -⟩ := H2.st.2.1.raw
  obtain ⟨f0, g0, ⟨r0, -, -⟩, -⟩ := (H2.st.dr (d := 0)).raw
  obtain ⟨f1, g1, ⟨r1, -, -⟩, -⟩ := (H2.st.dr (d := 1)).raw
  obtain ⟨fm, gm, ⟨rm, -, -⟩, -⟩ := MB.raw
  have loop2 : ∀ e j (r : Int64), j + e = (zQ0 A.1).length → zmB r ((zQ0 A.1).drop j) = zdg A.1 → P 201 [some (.ref 0), some (.long r), none, some (.int (nI j))] [] h2 n 0 0 := by
    intro e
    induction e with
    | zero =>
      intro j r hj hr
      rw [List.drop_of_length_le (by omega)] at hr
      refine hgo [201] 40 _ _ _ _ _ _ _ ?_
      conv => whnf
      refine ⟨_, ob2, _, rfl, ?_⟩
      conv => whnf
      refine ⟨_, mo2, _, rfl, ?_⟩
      conv => whnf
      refine ⟨fun _ => ?_, fun q => absurd (nI_le (show (zQ0 A.1).length ≤ j by omega) (show j < 2 ^ 31 by omega)) q⟩
      conv => whnf
      rw [← hr] at H1
      exact H1
    | succ e ih =>
      intro j r hj hr
      obtain ⟨v, hv⟩ : ∃ v, (zQ0 A.1)[j]? = some v := ⟨(zQ0 A.1)[j], List.getElem?_eq_getElem (by omega)⟩
      rw [zdrop hv] at hr
      have k9 := ih (j + 1) (zmx (zmx r (nI v.1)) (nI v.2)) (by omega) hr
      rw [← zinc (j := j)] at k9
      refine hgo [201] 40 _ _ _ _ _ _ _ ?_
      conv => whnf
      refine ⟨_, ob2, _, rfl, ?_⟩
      conv => whnf
      refine ⟨_, mo2, _, rfl, ?_⟩
      conv => whnf
      refine ⟨fun q => absurd q (nI_ge (show j < (zQ0 A.1).length by omega) hq), fun _ => ?_⟩
      conv => whnf
      refine ⟨_, ob2, _, rfl, ?_⟩
      conv => whnf
      refine ⟨_, mo2, ?_⟩
      refine S_X4_blockOfConflict hC MK hv ?_
      conv => whnf
      refine S_X6_mixed hC ?_
      conv => whnf
      refine ⟨_, ob2, _, rfl, ?_⟩
      conv => whnf
      refine ⟨_, mo2, ?_⟩
      refine S_X4_kindOfConflict hC MK hv ?_
      conv => whnf
      refine S_X6_mixed hC ?_
      conv => whnf
      exact k9
  have loop1 : ∀ e j, j + e = (zba A.1).length → P 135 [some (.ref 0), some (.long (zdgC A.1 j)), none, some (.int (nI j))] [] h2 n 0 0 := by
    intro e
    induction e with
    | zero =>
      intro j hj
      refine hgo [135, 201] 40 _ _ _ _ _ _ _ ?_
      conv => whnf
      refine ⟨_, ob2, _, rfl, ?_⟩
      conv => whnf
      refine ⟨_, st2, _, rfl, ?_⟩
      conv => whnf
      refine ⟨_, rb, _, rfl, ?_⟩
      conv => whnf
      refine ⟨fun _ => ?_, fun q => absurd (nI_le (show (zba A.1).length ≤ j by omega) (show j < 2 ^ 31 by omega)) q⟩
      conv => whnf
      refine ⟨_, ob2, _, rfl, ?_⟩
      conv => whnf
      refine ⟨_, mo2, _, rfl, ?_⟩
      conv => whnf
      refine S_X6_mixedWithBlocks hC MB ?_
      conv => whnf
      rw [show j = (zba A.1).length by omega]
      exact loop2 (zQ0 A.1).length 0 _ (by omega) rfl
    | succ e ih =>
      intro j hj
      have k9 := ih (j + 1) (by omega)
      rw [← zinc (j := j)] at k9
      refine hgo [135, 201] 40 _ _ _ _ _ _ _ ?_
      conv => whnf
      refine ⟨_, ob2, _, rfl, ?_⟩
      conv => whnf
      refine ⟨_, st2, _, rfl, ?_⟩
      conv => whnf
      refine ⟨_, rb, _, rfl, ?_⟩
      conv => whnf
      refine ⟨fun q => absurd q (nI_ge (show j < (zba A.1).length by omega) (show (zba A.1).length < 2 ^ 31 by omega)), fun _ => ?_⟩
      conv => whnf
      refine ⟨_, ob2, _, rfl, ?_⟩
      conv => whnf
      refine ⟨_, mo2, _, rfl, ?_⟩
      conv => whnf
      refine ⟨_, MX0.obj, ?_⟩
      refine S_X2_of hC MX0 (by omega) ?_
      conv => whnf
      refine S_X6_mixed hC ?_
      conv => whnf
      refine ⟨_, ob2, _, rfl, ?_⟩
      conv => whnf
      refine ⟨_, mo2, _, rfl, ?_⟩
      conv => whnf
      refine ⟨_, MX1.obj, ?_⟩
      refine S_X2_of hC MX1 (by omega) ?_
      conv => whnf
      refine S_X6_mixed hC ?_
      conv => whnf
      exact k9
  conv => whnf
  refine ⟨_, ob2, _, rfl, ?_⟩
  conv => whnf
  refine ⟨_, st2, _, rfl, ?_⟩
  conv => whnf
  refine ⟨_, rb, _, rfl, ?_⟩
  conv => whnf
  refine S_X6_mixed hC ?_
  conv => whnf
  refine ⟨_, ob2, _, rfl, ?_⟩
  conv => whnf
  refine ⟨_, mo2, _, rfl, ?_⟩
  conv => whnf
  refine ⟨_, rm, _, rfl, ?_⟩
  conv => whnf
  refine S_X6_mixed hC ?_
  conv => whnf
  refine ⟨_, ob2, _, rfl, ?_⟩
  conv => whnf
  refine ⟨_, mo2, _, rfl, ?_⟩
  conv => whnf
  refine S_X6_mixed hC ?_
  conv => whnf
  refine ⟨_, ob2, _, rfl, ?_⟩
  conv => whnf
  refine ⟨_, ob2, _, rfl, ?_⟩
  conv => whnf
  refine ⟨_, mo2, ?_⟩
  refine S_X4_countOpen hC MK H2.st hnb ?_
  conv => whnf
  refine S_X6_mixed hC ?_
  conv => whnf
  refine ⟨_, ob2, _, rfl, ?_⟩
  conv => whnf
  refine ⟨_, st2, _, rfl, ?_⟩
  conv => whnf
  refine S_X6_mixed hC ?_
  conv => whnf
  refine ⟨_, ob2, _, rfl, ?_⟩
  conv => whnf
  refine ⟨_, st2, _, rfl, ?_⟩
  conv => whnf
  refine ⟨_, r0, _, rfl, ?_⟩
  conv => whnf
  refine S_X6_mixed hC ?_
  conv => whnf
  refine ⟨_, ob2, _, rfl, ?_⟩
  conv => whnf
  refine ⟨_, st2, _, rfl, ?_⟩
  conv => whnf
  refine S_X6_mixedWithBlocks hC (H2.st.dr (d := 0)) ?_
  conv => whnf
  refine ⟨_, ob2, _, rfl, ?_⟩
  conv => whnf
  refine ⟨_, st2, _, rfl, ?_⟩
  conv => whnf
  refine ⟨_, r1, _, rfl, ?_⟩
  conv => whnf
  refine S_X6_mixed hC ?_
  conv => whnf
  refine ⟨_, ob2, _, rfl, ?_⟩
  conv => whnf
  refine ⟨_, st2, _, rfl, ?_⟩
  conv => whnf
  refine S_X6_mixedWithBlocks hC (H2.st.dr (d := 1)) ?_
  conv => whnf
  exact loop1 (zba A.1).length 0 (by omega)

