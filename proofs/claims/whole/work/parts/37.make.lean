/-! Merge: make -/
theorem zcnt_lt {σ : zS} (h : ∀ d, ∀ v ∈ zdr σ d, v.2 < 1000) {i : Nat} : zcnt σ i < 1000 := by
  have yb : ∀ d, zyx σ d i < 1000 := by
    intro d
    unfold zyx zyv zco
    cases e : (zdr σ d).find? (fun v => v.1 == i) with
    | none => exact (by decide : 0 < 1000)
    | some w => exact h d w (List.mem_of_find?_eq_some e)
  have y0 := yb 0
  have y1 := yb 1
  unfold zcnt zcnB
  split
  · exact y1
  · split
    · exact y0
    · split
      · split
        · split
          · exact y0
          · exact y1
        · exact y0
      · exact y1
theorem zplc_le {σ : zS} {i : Nat} : zplc σ i < 4 := by
  have h0 := zcw_le (σ := σ) (i := i) (k := 2)
  have hR : ∀ d, d < 2 → zplR σ d i < 4 := by
    intro d hd
    unfold zplR
    split
    · split <;> omega
    · omega
  have r0 := hR 0 (by decide)
  have r1 := hR 1 (by decide)
  unfold zplc zplB
  split
  · split <;> omega
  · split
    · omega
    · split
      · split
        · split <;> omega
        · omega
      · split <;> omega
def zPc (σ : zS) (pl ct : Nat → Int32) : Prop := ∀ i, i < (zba σ).length → pl i = nI (zplc σ i) ∧ (zplc σ i ≠ 3 → ct i = nI (zcnt σ i))
theorem zMk.of1 {lo hi m : Nat} {Q : zB} {pl ct : Nat → Int32} {h h' : zH} (H : zMk h m Q pl ct) (ho : zOff lo hi h h') (h1 : m < lo) (h2 : hi ≤ m + 10) : zMk h' m Q pl ct := H.off (lo := 0) (hi := 0) fun a ha => ho a (by omega)
set_option maxRecDepth 100000 in
theorem S_X4_putBlocksOf {C : zK} (hC : zCld 215 zTT C) {h : zH} {n : Nat} {K : zQ} {m s d : Nat} {σ : zS} {M : zB} {Q : zB} {pl ct : Nat → Int32} (H : zMk h m Q pl ct) (Hs : zSta h s σ) (W : zwf σ) (hd : d < 2) (hm : s + 11 ≤ m ∨ m + 14 ≤ s) (hpc : zPc σ pl ct) (hnb : (zba σ).length ≤ 10) (hM : zBl h (m + 1) 30 M) (hO : zMo σ d 0 M) (H1 : ∀ h', zBl h' (m + 1) 30 (zpus σ d (zdr σ d).length 0 M) → zOff (m + 1) (m + 4) h h' → K 0 none h' n) : C 60 [.ref m, .int (nI d), .ref s] h n K := by
  refine zd_X4_putBlocksOf hC rfl fun P hgo hF => ?_
  have hda := zda_in s d
  have hst := Hs.1
  have loop : ∀ e p (h2 : zH) (M2 : zB), p + e = (zdr σ d).length → zBl h2 (m + 1) 30 M2 → zOff (m + 1) (m + 4) h h2 → zMo σ d p M2 → zpus σ d e p M2 = zpus σ d (zdr σ d).length 0 M → P 9 [some (.ref m), some (.int (nI d)), some (.ref s), some (.ref (zda s d)), some (.int (nI p)), none] [] h2 n 0 0 := by
    intro e
    induction e with
    | zero =>
      intro p h2 M2 hp B2 ho O2 he
      have S2 := Hs.off ho (by omega)
      obtain ⟨f, g, ⟨r1, -, -⟩, hlen, hN, hval, hw⟩ := (S2.dr (d := d)).raw
      refine hgo [9] 60 _ _ _ _ _ _ _ ?_
      conv => whnf
      refine ⟨_, r1, _, rfl, ?_⟩
      conv => whnf
      refine ⟨fun _ => ?_, fun q => absurd (nI_le (show (zdr σ d).length ≤ p by omega) (show p < 2 ^ 31 by omega)) q⟩
      conv => whnf
      exact H1 h2 (by rw [← he]; exact B2) ho
    | succ e ih =>
      intro p h2 M2 hp B2 ho O2 he
      have S2 := Hs.off ho (by omega)
      have st2 := S2.1
      have L2 := S2.dr (d := d)
      have A2 := S2.2.1
      have K2 := H.of1 ho (by omega) (by omega)
      have ob2 := K2.obj
      have pl2 := K2.pl
      have ct2 := K2.ct
      obtain ⟨f, g, ⟨r1, -, -⟩, hlen, hN, hval, hw⟩ := L2.raw
      obtain ⟨f3, g3, ⟨r3, -, -⟩, -⟩ := B2.raw
      obtain ⟨f4, g4, ⟨r4, -, -⟩, -⟩ := A2.raw
      obtain ⟨v, hv⟩ : ∃ v, (zdr σ d)[p]? = some v := ⟨(zdr σ d)[p], List.getElem?_eq_getElem (by omega)⟩
      have hvb := hw v (List.mem_of_getElem? hv)
      have cb := zcnt_lt (σ := σ) (i := v.1) (fun d' w hw' => by
        obtain ⟨f5, g5, -, -, -, -, hw5⟩ := (S2.dr (d := d')).raw
        exact (hw5 w hw').2)
      have O3 := O2.step W hd
      have he' : zpus σ d e (p + 1) (zpu σ d M2 p) = zpus σ d (zdr σ d).length 0 M := he
      have hu : zpu σ d M2 p = if (zba σ).length ≤ v.1 then M2.insertIdx (zpb M2 (zdr σ d) p) v else if zplc σ v.1 = d then M2.insertIdx (zpb M2 (zdr σ d) p) (v.1, zcnt σ v.1) else M2 := by
        unfold zpu
        rw [hv]
      have nx : ∀ h3, zBl h3 (m + 1) 30 (zpu σ d M2 p) → zOff (m + 1) (m + 4) h2 h3 → P 101 [some (.ref m), some (.int (nI d)), some (.ref s), some (.ref (zda s d)), some (.int (nI p)), some (.int (nI v.1))] [] h3 n 0 0 := by
        intro h3 B3 o3
        have k9 := ih (p + 1) h3 _ (by omega) B3 (ho.tr o3) O3 he'
        rw [← zinc (j := p)] at k9
        refine hgo [9] 40 _ _ _ _ _ _ _ ?_
        conv => whnf
        refine hF _ _ _ _ _ _ _ _ ?_ k9
        intro i w hi
        match i, hi with
        | 0, hi => exact hi
        | 1, hi => exact hi
        | 2, hi => exact hi
        | 3, hi => exact hi
        | 4, hi => exact hi
        | 5, hi => exact nomatch hi
        | i + 6, hi => exact nomatch hi
      have hpb := zpb_le (M := M2) (L := zdr σ d) p
      refine hgo [9, 101] 60 _ _ _ _ _ _ _ ?_
      conv => whnf
      refine ⟨_, r1, _, rfl, ?_⟩
      conv => whnf
      refine ⟨fun q => absurd q (nI_ge (show p < (zdr σ d).length by omega) (show (zdr σ d).length < 2 ^ 31 by omega)), fun _ => ?_⟩
      conv => whnf
      refine ⟨_, r1, ?_⟩
      refine S_numAt hC L2 hv ?_
      conv => whnf
      refine ⟨_, st2, _, rfl, ?_⟩
      conv => whnf
      refine ⟨_, r4, _, rfl, ?_⟩
      conv => whnf
      refine ⟨fun q => ?_, fun q => ?_⟩
      · have c1 : ¬ (zba σ).length ≤ v.1 := Nat.not_le.mpr ((nI_ltI (a := v.1) (b := (zba σ).length) (by omega) (by omega)).mp q)
        rw [if_neg c1] at hu
        conv => whnf
        refine ⟨_, ob2, _, rfl, ?_⟩
        conv => whnf
        refine S_getC hC pl2 (by decide) (show v.1 < 10 by omega) ?_
        rw [(hpc v.1 (by omega)).1]
        have hp4 := zplc_le (σ := σ) (i := v.1)
        conv => whnf
        refine ⟨fun q2 => ?_, fun q2 => ?_⟩
        · rw [if_neg (fun z => q2 (by rw [z]))] at hu
          conv => whnf
          refine nx h2 ?_ zOff.rf
          rw [hu]
          exact B2
        · have c2 : zplc σ v.1 = d := nI_inj (by omega) (by omega) q2
          rw [if_pos c2] at hu
          conv => whnf
          refine ⟨_, ob2, _, rfl, ?_⟩
          conv => whnf
          refine ⟨_, ob2, ?_⟩
          refine S_X4_placeBehind hC K2 B2 L2 (by omega) ?_
          conv => whnf
          refine ⟨_, ob2, _, rfl, ?_⟩
          conv => whnf
          refine S_getC hC ct2 (by decide) (show v.1 < 10 by omega) ?_
          rw [(hpc v.1 (by omega)).2 (by omega)]
          conv => whnf
          refine ⟨_, r3, ?_⟩
          refine S_X0_putIn hC B2 hpb (O2.room W hd hv (Or.inr c2)) ⟨hvb.1, cb⟩ (fun h3 B3 o3 => ?_)
          conv => whnf
          refine nx h3 ?_ (o3.wd (by omega) (by omega))
          rw [hu]
          exact B3
      · have c1 : (zba σ).length ≤ v.1 := Nat.le_of_not_lt fun z => q ((nI_ltI (a := v.1) (b := (zba σ).length) (by omega) (by omega)).mpr z)
        rw [if_pos c1] at hu
        conv => whnf
        refine ⟨_, ob2, _, rfl, ?_⟩
        conv => whnf
        refine ⟨_, ob2, ?_⟩
        refine S_X4_placeBehind hC K2 B2 L2 (by omega) ?_
        conv => whnf
        refine ⟨_, r1, ?_⟩
        refine S_conAt hC L2 hv ?_
        conv => whnf
        refine ⟨_, r3, ?_⟩
        refine S_X0_putIn hC B2 hpb (O2.room W hd hv (Or.inl c1)) hvb (fun h3 B3 o3 => ?_)
        conv => whnf
        refine nx h3 ?_ (o3.wd (by omega) (by omega))
        rw [hu]
        exact B3
  refine hgo [9] 60 _ _ _ _ _ _ _ ?_
  conv => whnf
  refine ⟨_, hst, ?_⟩
  refine S_X5_draft hC Hs hd ?_
  conv => whnf
  exact loop (zdr σ d).length 0 h M (by omega) hM zOff.rf hO rfl
/-- the conflicts, in order -/
def zcfl (σ : zS) (j : Nat) : zB := (List.range j).flatMap (zknd σ)
def zfr (σ : zS) (j : Nat) : zB := ((List.range j).filter (fun i => zplc σ i == 2)).map (fun i => (i, zcnt σ i))
def zmer (σ : zS) : zB := zpus σ 1 (zdr σ 1).length 0 (zpus σ 0 (zdr σ 0).length 0 (zfr σ (zba σ).length))
theorem zcfl_s {σ : zS} {j : Nat} : zcfl σ (j + 1) = zcfl σ j ++ zknd σ j := by
  unfold zcfl
  rw [List.range_succ, List.flatMap_append]
  simp
theorem zcfl_le {σ : zS} : ∀ j, (zcfl σ j).length ≤ 2 * j := by
  intro j
  induction j with
  | zero => exact Nat.le_refl _
  | succ j ih =>
    have := zknd_le (σ := σ) (i := j)
    rw [zcfl_s, List.length_append]
    omega
theorem zfr_s {σ : zS} {j : Nat} : zfr σ (j + 1) = zfr σ j ++ (if zplc σ j = 2 then [(j, zcnt σ j)] else []) := by
  unfold zfr
  rw [List.range_succ, List.filter_append, List.map_append]
  by_cases c : zplc σ j = 2
  · rw [if_pos c]; simp [c]
  · rw [if_neg c]; simp [c]
theorem zfr_in {σ : zS} {j : Nat} {v : Nat × Nat} (h : v ∈ zfr σ j) : v.1 < j ∧ zplc σ v.1 = 2 := by
  unfold zfr at h
  obtain ⟨i, h1, h2⟩ := List.mem_map.mp h
  obtain ⟨h3, h4⟩ := List.mem_filter.mp h1
  rw [← h2]
  exact ⟨List.mem_range.mp h3, by simpa using h4⟩
theorem zfr_le {σ : zS} : ∀ j, (zfr σ j).length ≤ j := by
  intro j
  induction j with
  | zero => exact Nat.le_refl _
  | succ j ih =>
    rw [zfr_s, List.length_append]
    split
    · exact Nat.succ_le_succ ih
    · exact Nat.le_succ_of_le ih
theorem zfr_nod {σ : zS} {j : Nat} : ((zfr σ j).map Prod.fst).Nodup := by
  unfold zfr
  rw [List.map_map]
  have : (Prod.fst ∘ fun i => (i, zcnt σ i)) = id := rfl
  rw [this, List.map_id]
  exact (List.nodup_range).filter _
theorem zfr_mo {σ : zS} (hnb : (zba σ).length ≤ 10) : zMo σ 0 0 (zfr σ (zba σ).length) := by
  refine ⟨zfr_nod, fun v hv => ?_, fun v hv => Or.inl (zfr_in hv)⟩
  have := (zfr_in hv).1
  omega

