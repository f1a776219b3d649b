/-! The reference: keeps, the kept ones -/
theorem znar1 : vp_nar .boolean 1 = 1 := by decide
theorem znar0 : vp_nar .boolean 0 = 0 := by decide
set_option maxRecDepth 100000 in
theorem S_kpls {C : zK} (hC : zCld 215 zTT C) {h : zH} {n : Nat} {K : zQ} {r d l0 fr : Nat} {la : Int32} {c : Nat → Int32} {σ : zS} {P : zP} (hgo : zGo zT_X7_keeps C K P) (hF : zfgt P) (hd : d < 2) (hl0 : l0 + 1 ≤ 1000) {lf : Nat → Int32} (H : zRr h r c σ) (hl : h (r + 11) = .inl (0, 16, .inl lf)) (hlf : ∀ i, i < (zdr σ d).length → lf i = nI (zal (zba σ).length (zdr σ d) i)) (G : P 328 [some (.ref r), some (.int (nI d)), none, some (.int la), some (.int (nI fr)), some (.int (nI (l0 + 1))), some (.int (zon (zls (zba σ).length (zdr σ d) (l0 + 1) la ((zdr σ d).length - fr) fr none))), none, none] [] h n 0 0) : ∀ e j best, j + e = (zdr σ d).length → (∀ q, best = some q → q < (zdr σ d).length) → zls (zba σ).length (zdr σ d) (l0 + 1) la e j best = zls (zba σ).length (zdr σ d) (l0 + 1) la ((zdr σ d).length - fr) fr none → P 229 [some (.ref r), some (.int (nI d)), none, some (.int la), some (.int (nI fr)), some (.int (nI (l0 + 1))), some (.int (zon best)), some (.int (nI j)), none] [] h n 0 0 := by
  have hL := H.ln d
  have hnb := H.bs
  obtain ⟨b1, f, b2, b3⟩ := id H
  intro e
  induction e with
  | zero =>
    intro j best hj hbest hinv
    refine hgo [229, 328] 60 _ _ _ _ _ _ _ ?_
    conv => whnf
    refine ⟨_, b1, ?_⟩
    refine S_X7_sizeOf hC H hd ?_
    conv => whnf
    refine ⟨fun _ => ?_, fun q => absurd (nI_le (show (zdr σ d).length ≤ j by omega) (show j < 2 ^ 31 by omega)) q⟩
    conv => whnf
    rw [← hinv] at G
    have k9 : P 328 [some (.ref r), some (.int (nI d)), none, some (.int la), some (.int (nI fr)), some (.int (nI (l0 + 1))), some (.int (zon best)), none, none] [] h n 0 0 := G
    refine hF _ _ _ _ _ _ _ _ ?_ k9
    repeat (first | exact zf_0 | refine zf_s ?_ | refine zf_n ?_)
  | succ e ih =>
    intro j best hj hbest hinv
    obtain ⟨v, hv⟩ : ∃ v, (zdr σ d)[j]? = some v := ⟨(zdr σ d)[j], List.getElem?_eq_getElem (by omega)⟩
    have hvb := H.lt d v (List.mem_of_getElem? hv)
    have hza := zal_le (nb := (zba σ).length) (L := zdr σ d) (p := j)
    have hinv' : zls (zba σ).length (zdr σ d) (l0 + 1) la e (j + 1) (zstp (zba σ).length (zdr σ d) (l0 + 1) la best j) = zls (zba σ).length (zdr σ d) (l0 + 1) la ((zdr σ d).length - fr) fr none := hinv
    have nx : ∀ best', zstp (zba σ).length (zdr σ d) (l0 + 1) la best j = best' → (∀ q, best' = some q → q < (zdr σ d).length) → P 322 [some (.ref r), some (.int (nI d)), none, some (.int la), some (.int (nI fr)), some (.int (nI (l0 + 1))), some (.int (zon best')), some (.int (nI j)), none] [] h n 0 0 := by
      intro best' e9 hb9
      rw [e9] at hinv'
      have k9 := ih (j + 1) best' (by omega) hb9 hinv'
      rw [← zinc (j := j)] at k9
      refine hgo [229, 322] 60 _ _ _ _ _ _ _ ?_
      conv => whnf
      exact k9
    have no : zstp (zba σ).length (zdr σ d) (l0 + 1) la best j = best → P 282 [some (.ref r), some (.int (nI d)), none, some (.int la), some (.int (nI fr)), some (.int (nI (l0 + 1))), some (.int (zon best)), some (.int (nI j)), none] [] h n 0 0 := by
      intro e9
      have k9 := nx best e9 hbest
      refine hgo [322] 60 _ _ _ _ _ _ _ ?_
      conv => whnf
      refine ⟨fun _ => ?_, fun z => absurd rfl z⟩
      conv => whnf
      refine hF _ _ _ _ _ _ _ _ ?_ k9
      repeat (first | exact zf_0 | refine zf_s ?_ | refine zf_n ?_)
    have yes : zstp (zba σ).length (zdr σ d) (l0 + 1) la best j = some j → P 313 [some (.ref r), some (.int (nI d)), none, some (.int la), some (.int (nI fr)), some (.int (nI (l0 + 1))), some (.int (zon best)), some (.int (nI j)), none] [] h n 0 0 := by
      intro e9
      have k9 := nx (some j) e9 (fun q hq => by cases hq; omega)
      refine hgo [322] 60 _ _ _ _ _ _ _ ?_
      conv => whnf
      exact k9
    refine hgo [229, 282, 313, 318, 322] 60 _ _ _ _ _ _ _ ?_
    conv => whnf
    refine ⟨_, b1, ?_⟩
    refine S_X7_sizeOf hC H hd ?_
    conv => whnf
    refine ⟨fun q => absurd q (nI_ge (show j < (zdr σ d).length by omega) (show (zdr σ d).length < 2 ^ 31 by omega)), fun _ => ?_⟩
    conv => whnf
    refine ⟨_, b1, _, rfl, ?_⟩
    conv => whnf
    refine ⟨_, _, hl, vp_in_nI (show j < 16 by omega) (by decide), ?_⟩
    rw [nI_clamp (show j < 2 ^ 31 by omega), hlf j (by omega)]
    conv => whnf
    refine ⟨fun q => ?_, fun q => ?_⟩
    · conv => whnf
      refine no ?_
      unfold zstp
      rw [if_neg (fun z => q (by rw [z.1]))]
    · have hq1 := nI_inj (by omega) (by omega) q
      have hvn := zal_pos hv hq1
      conv => whnf
      refine ⟨_, b1, ?_⟩
      refine S_X7_numberAt hC H hd hv ?_
      conv => whnf
      refine ⟨fun q2 => ?_, fun q2 => ?_⟩
      · conv => whnf
        refine no ?_
        unfold zstp
        rw [if_neg (fun z => by rw [znm_at hv] at z; exact Int32.not_le.mpr z.2 q2)]
      · have hcd : zal (zba σ).length (zdr σ d) j = l0 + 1 ∧ la < nI (znm (zdr σ d) j) := ⟨hq1, by rw [znm_at hv]; exact Int32.not_le.mp q2⟩
        conv => whnf
        refine ⟨_, b1, ?_⟩
        refine S_X7_numberAt hC H hd hv ?_
        conv => whnf
        refine ⟨_, b1, _, rfl, ?_⟩
        conv => whnf
        refine ⟨_, _, b2, vp_in_nI (n := 0) (by omega) (by decide), ?_⟩
        rw [show (0 : Int32).toNatClampNeg = 0 by decide, b3.1]
        conv => whnf
        refine ⟨fun q3 => absurd q3 (nI_ge hvn (by omega)), fun _ => ?_⟩
        conv => whnf
        refine ⟨fun z => absurd z (by decide), fun _ => ?_⟩
        conv => whnf
        refine ⟨fun q3 => ?_, fun q3 => ?_⟩
        · have k9 := yes (by
            unfold zstp
            rw [if_pos hcd]
            cases best with
            | none => rfl
            | some t => exact absurd q3 (nI_ne_m1 (by have := hbest t rfl; omega)))
          conv => whnf
          refine hF _ _ _ _ _ _ _ _ ?_ k9
          repeat (first | exact zf_0 | refine zf_s ?_ | refine zf_n ?_)
        · obtain ⟨t, ht⟩ : ∃ t, best = some t := by
            cases best with
            | none => exact absurd rfl q3
            | some t => exact ⟨t, rfl⟩
          obtain ⟨u, hu⟩ : ∃ u, (zdr σ d)[t]? = some u := ⟨(zdr σ d)[t]'(hbest t ht), List.getElem?_eq_getElem (hbest t ht)⟩
          have hub := H.lt d u (List.mem_of_getElem? hu)
          conv => whnf
          refine ⟨_, b1, ?_⟩
          refine S_X7_numberAt hC H hd hv ?_
          conv => whnf
          refine ⟨_, b1, ?_⟩
          rw [ht]
          refine S_X7_numberAt hC H hd hu ?_
          conv => whnf
          refine ⟨fun q4 => ?_, fun q4 => ?_⟩
          · have k9 := nx (some t) (by
              unfold zstp
              rw [if_pos hcd, ht, znm_at hv]
              show (if v.1 < znm (zdr σ d) t then some j else some t) = some t
              rw [znm_at hu, if_neg (fun z => nI_ge z (by omega) q4)]) (fun q hq => by cases hq; exact hbest t ht)
            have k8 : P 318 [some (.ref r), some (.int (nI d)), none, some (.int la), some (.int (nI fr)), some (.int (nI (l0 + 1))), some (.int (zon (some t))), some (.int (nI j)), none] [] h n 0 0 := by
              refine hgo [322] 60 _ _ _ _ _ _ _ ?_
              conv => whnf
              exact k9
            conv => whnf
            refine hF _ _ _ _ _ _ _ _ ?_ k8
            repeat (first | exact zf_0 | refine zf_s ?_ | refine zf_n ?_)
          · have hlt : v.1 < u.1 := Nat.lt_of_not_le fun z => q4 (nI_le z (by omega))
            have k9 := yes (by
              unfold zstp
              rw [if_pos hcd, ht, znm_at hv]
              show (if v.1 < znm (zdr σ d) t then some j else some t) = some j
              rw [znm_at hu, if_pos hlt])
            rw [ht] at k9
            conv => whnf
            refine hF _ _ _ _ _ _ _ _ ?_ k9
            repeat (first | exact zf_0 | refine zf_s ?_ | refine zf_n ?_)
set_option maxRecDepth 100000 in
theorem S_kpmark {C : zK} (hC : zCld 215 zTT C) {n : Nat} {K : zQ} {r d : Nat} {c : Nat → Int32} {σ : zS} {P : zP} (hgo : zGo zT_X7_keeps C K P) (hF : zfgt P) (hd : d < 2) {lf : Nat → Int32} (hlf : ∀ i, i < (zdr σ d).length → lf i = nI (zal (zba σ).length (zdr σ d) i)) : ∀ (len : Nat) (la : Int32) (fr : Nat) (h : zH) (kf : Nat → Int32), len ≤ 1000 → fr ≤ (zdr σ d).length → (∀ m, len = m + 1 → zcd (zba σ).length (zdr σ d) len la fr) → zRr h r c σ → h (r + 11) = .inl (0, 16, .inl lf) → h (r + 4) = .inl (1, 20, .inl kf) → (∀ h' kf', h' (r + 4) = .inl (1, 20, .inl kf') → (∀ i, i < 10 → kf' (10 * d + i) = if i ∈ zkeep (zba σ).length (zdr σ d) len la fr then 1 else kf (10 * d + i)) → (∀ i, (i < 10 * d ∨ 10 * d + 10 ≤ i) → kf' i = kf i) → (∀ a, a ≠ r + 4 → h' a = h a) → K 0 none h' n) → P 217 [some (.ref r), some (.int (nI d)), none, some (.int la), some (.int (nI fr)), some (.int (nI len)), none, none, none] [] h n 0 0 := by
  intro len
  induction len with
  | zero =>
    intro la fr h kf hl9 hfr hcd H hl hk G
    refine hgo [217] 60 _ _ _ _ _ _ _ ?_
    conv => whnf
    refine ⟨fun _ => ?_, fun q => absurd (by decide) q⟩
    conv => whnf
    exact G h kf hk (fun i hi => (if_neg (fun z => nomatch z)).symm) (fun _ _ => rfl) (fun _ _ => rfl)
  | succ len ih =>
    intro la fr h kf hl9 hfr hcd H hl hk G
    have hL := H.ln d
    have hnb := H.bs
    obtain ⟨b1, f, b2, b3⟩ := id H
    obtain ⟨q, v, c1, c2, c3, c4, c5⟩ := zls_cd (hcd len rfl)
    have hql := (List.getElem?_eq_some_iff.mp c3).1
    have hvn := zal_pos c3 c4
    have hw' : ∀ v ∈ zdr σ d, v.1 < 1000 := fun v hv => (H.lt d v hv).1
    have hke : zkeep (zba σ).length (zdr σ d) (len + 1) la fr = v.1 :: zkeep (zba σ).length (zdr σ d) len (nI v.1) (q + 1) := by
      show (match zls (zba σ).length (zdr σ d) (len + 1) la ((zdr σ d).length - fr) fr none with
        | none => []
        | some p => znm (zdr σ d) p :: zkeep (zba σ).length (zdr σ d) len (nI (znm (zdr σ d) p)) (p + 1)) = _
      rw [c1]
      show znm (zdr σ d) q :: zkeep (zba σ).length (zdr σ d) len (nI (znm (zdr σ d) q)) (q + 1) = _
      rw [znm_at c3]
    refine hgo [217, 229] 60 _ _ _ _ _ _ _ ?_
    conv => whnf
    refine ⟨fun q9 => absurd q9 (fun z => absurd z (by rw [Int32.le_iff_toInt_le, nI_toInt (by omega)]; show ¬ ((len + 1 : Nat) : Int) ≤ 0; omega)), fun _ => ?_⟩
    conv => whnf
    refine S_kpls hC hgo hF hd (l0 := len) hl9 H hl hlf ?_ ((zdr σ d).length - fr) fr none (by omega) (fun q hq => nomatch hq) rfl
    rw [c1]
    refine hgo [217] 60 _ _ _ _ _ _ _ ?_
    conv => whnf
    refine ⟨_, b1, ?_⟩
    refine S_X7_numberAt hC H hd c3 ?_
    conv => whnf
    refine ⟨_, b1, _, rfl, ?_⟩
    conv => whnf
    rw [show (10 : Int32) * nI d + nI v.1 = nI (10 * d + v.1) by rw [show (10 : Int32) = nI 10 by decide, pk_mul, nI_add]]
    refine ⟨_, _, hk, vp_in_nI (show 10 * d + v.1 < 20 by omega) (by decide), ?_⟩
    rw [nI_clamp (show 10 * d + v.1 < 2 ^ 31 by omega)]
    conv => whnf
    rw [znar1]
    have k9 := ih (nI v.1) (q + 1) (zupd h (r + 4) (.inl (1, 20, .inl (upd kf (10 * d + v.1) 1)))) (upd kf (10 * d + v.1) 1) (by omega) (by omega) (fun m hm => by
      rw [hm] at c4 ⊢
      exact zcd_next hw' c3 c4) (H.eq fun a z1 _ => zupd_n z1) ((zupd_n (by omega)).trans hl) zupd_s (fun h' kf' g1 g2 g3 g4 => G h' kf' g1 (fun i hi => by
        rw [g2 i hi, hke]
        by_cases e1 : i = v.1
        · rw [e1, upd_s, if_pos (List.mem_cons_self)]
          exact ite_self _
        · rw [upd_n (by omega)]
          by_cases e2 : i ∈ zkeep (zba σ).length (zdr σ d) len (nI v.1) (q + 1)
          · rw [if_pos e2, if_pos (List.mem_cons_of_mem _ e2)]
          · rw [if_neg e2, if_neg (fun z => (List.mem_cons.mp z).elim e1 e2)]) (fun i hi => (g3 i hi).trans (upd_n (by omega))) (fun a ha => (g4 a ha).trans (zupd_n ha)))
    rw [← zdec (j := len), show nI (q + 1) = nI q + 1 from (nI_1 q).symm] at k9
    refine hF _ _ _ _ _ _ _ _ ?_ k9
    repeat (first | exact zf_0 | refine zf_s ?_ | refine zf_n ?_)
set_option maxRecDepth 100000 in
theorem S_X7_keeps {C : zK} (hC : zCld 215 zTT C) {h : zH} {n : Nat} {K : zQ} {r d : Nat} {c : Nat → Int32} {σ : zS} {kf lf : Nat → Int32} (H : zRr h r c σ) (hd : d < 2) (hk : h (r + 4) = .inl (1, 20, .inl kf)) (hl : h (r + 11) = .inl (0, 16, .inl lf)) (H1 : ∀ h' kf' lf', h' (r + 4) = .inl (1, 20, .inl kf') → h' (r + 11) = .inl (0, 16, .inl lf') → (∀ i, i < 10 → kf' (10 * d + i) = if i ∈ zkept (zba σ).length (zdr σ d) then 1 else 0) → (∀ i, (i < 10 * d ∨ 10 * d + 10 ≤ i) → kf' i = kf i) → (∀ a, a ≠ r + 4 → a ≠ r + 11 → h' a = h a) → K 0 none h' n) : C 153 [.ref r, .int (nI d)] h n K := by
  have hL := H.ln d
  have hnb := H.bs
  refine zd_X7_keeps hC rfl fun P hgo hF => ?_
  have loop : ∀ e k (h2 : zH) (kf2 : Nat → Int32), k + e = 10 → h2 (r + 4) = .inl (1, 20, .inl kf2) → (∀ i, i < k → kf2 (10 * d + i) = 0) → (∀ i, (i < 10 * d ∨ 10 * d + 10 ≤ i) → kf2 i = kf i) → (∀ a, a ≠ r + 4 → h2 a = h a) → P 2 [some (.ref r), some (.int (nI d)), some (.int (nI k)), none, none, none, none, none, none] [] h2 n 0 0 := by
    intro e
    induction e with
    | zero =>
      intro k h2 kf2 hk2 g1 g2 g3 g4
      have hk10 : k = 10 := by omega
      rw [hk10] at g2 ⊢
      have H2 : zRr h2 r c σ := H.eq fun a z1 _ => g4 a z1
      have hl2 := (g4 (r + 11) (by omega)).trans hl
      refine hgo [2, 36] 60 _ _ _ _ _ _ _ ?_
      conv => whnf
      refine ⟨fun _ => ?_, fun q => absurd (by decide) q⟩
      conv => whnf
      refine ⟨_, H2.ob, ?_⟩
      refine S_X7_sizeOf hC H2 hd ?_
      conv => whnf
      have p3 : ∀ h3 lf3, zRr h3 r c σ → h3 (r + 11) = .inl (0, 16, .inl lf3) → (∀ i, i < (zdr σ d).length → lf3 i = nI (zal (zba σ).length (zdr σ d) i)) → (∀ a, a ≠ r + 11 → h3 a = h2 a) → P 209 [some (.ref r), some (.int (nI d)), some (.int (nI (zlx (zas (zba σ).length (zdr σ d))))), none, none, none, none, none, none] [] h3 n 0 0 := by
        intro h3 lf3 H3 a1 a2 a3
        have e4 := (a3 (r + 4) (by omega)).trans g1
        have hlx := zlx_le (nb := (zba σ).length) (zdr σ d)
        have hw' : ∀ v ∈ zdr σ d, v.1 < 1000 := fun v hv => (H.lt d v hv).1
        have k8 := S_kpmark hC hgo hF hd a2 (zlx (zas (zba σ).length (zdr σ d))) (-1) 0 h3 kf2 (by omega) (Nat.zero_le _) (fun m hm => by rw [hm]; exact zcd_first hw' hm) H3 a1 e4 (fun h4 kf4 c1 c2 c3 c4 => H1 h4 kf4 lf3 c1 ((c4 _ (by omega)).trans a1) (fun i hi => by
          rw [c2 i hi, g2 i hi]
          rfl) (fun i hi => (c3 i hi).trans (g3 i hi)) (fun a z1 z2 => (c4 a z1).trans ((a3 a z2).trans (g4 a z1))))
        refine hgo [217] 60 _ _ _ _ _ _ _ ?_
        conv => whnf
        refine hF _ _ _ _ _ _ _ _ ?_ k8
        repeat (first | exact zf_0 | refine zf_s ?_ | refine zf_n ?_)
      have k9 := S_kpout hC (n := n) hgo hF hd (zdr σ d).length h2 lf (Nat.le_refl _) H2 hl2 (fun i h1 h9 => absurd h9 (by omega)) p3
      rw [List.drop_of_length_le (Nat.le_refl _)] at k9
      exact k9
    | succ e ih =>
      intro k h2 kf2 hk2 g1 g2 g3 g4
      have H2 : zRr h2 r c σ := H.eq fun a z1 _ => g4 a z1
      have b1 := H2.ob
      refine hgo [2, 36] 60 _ _ _ _ _ _ _ ?_
      conv => whnf
      refine ⟨fun q => absurd q (nI_ge (show k < 10 by omega) (by decide)), fun _ => ?_⟩
      conv => whnf
      refine ⟨_, b1, _, rfl, ?_⟩
      conv => whnf
      rw [show (10 : Int32) * nI d + nI k = nI (10 * d + k) by rw [show (10 : Int32) = nI 10 by decide, pk_mul, nI_add]]
      refine ⟨_, _, g1, vp_in_nI (show 10 * d + k < 20 by omega) (by decide), ?_⟩
      rw [nI_clamp (show 10 * d + k < 2 ^ 31 by omega)]
      conv => whnf
      rw [znar0]
      have k9 := ih (k + 1) (zupd h2 (r + 4) (.inl (1, 20, .inl (upd kf2 (10 * d + k) 0)))) (upd kf2 (10 * d + k) 0) (by omega) zupd_s (fun i hi => by
        by_cases e1 : i = k
        · rw [e1, upd_s]
        · rw [upd_n (by omega)]; exact g2 i (by omega)) (fun i hi => (upd_n (by omega)).trans (g3 i hi)) (fun a ha => (zupd_n ha).trans (g4 a ha))
      rw [← zinc (j := k)] at k9
      exact k9
  refine hgo [2, 36] 60 _ _ _ _ _ _ _ ?_
  conv => whnf
  exact loop 10 0 h kf rfl hk (fun i hi => absurd hi (Nat.not_lt_zero _)) (fun _ _ => rfl) (fun _ _ => rfl)

