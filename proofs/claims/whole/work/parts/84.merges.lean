/-! The reference: laysOf, merges -/
theorem zpR_2 {k : Nat} (h : k < 4) {d : Nat} (hd : d < 3) : zpR k = nI d ↔ k = d := by
  unfold zpR
  by_cases c : k = 3
  · rw [if_pos c]
    exact ⟨fun z => absurd z.symm (nI_ne_m1 (by omega)), fun z => by omega⟩
  · rw [if_neg c]
    exact ⟨fun z => nI_inj (by omega) (by omega) z, fun z => by rw [z]⟩
theorem zYm.eq {h h' : zH} {r : Nat} {c c' : Nat → Int32} {M : zB} (H : zYm h r c M) (e : h' r = zRO r c') (e9 : c' 9 = c 9) (e5 : h' (r + 5) = h (r + 5)) (e6 : h' (r + 6) = h (r + 6)) : zYm h' r c' M := by
  obtain ⟨h1, h2, h3, h4, h5, mf, nf, h6, h7, h8⟩ := H
  exact ⟨e, e9.trans h2, h3, h4, h5, mf, nf, e5.trans h6, e6.trans h7, h8⟩
theorem zYm.ob {h : zH} {r : Nat} {c : Nat → Int32} {M : zB} (H : zYm h r c M) : h r = zRO r c := H.1
theorem zJ.ly {h h' : zH} {r : Nat} {c c' : Nat → Int32} {σ : zS} {Q : zB} {pl vl : Nat → Int32} (J : zJ h r c σ Q pl vl) (e : h' r = zRO r c') (e12 : c' 12 = c 12) (o : ∀ a, a ≠ r → a ≠ r + 5 → a ≠ r + 6 → h' a = h a) : zJ h' r c' σ Q pl vl := ⟨J.1.eq2 e (o _ (by omega) (by omega) (by omega)), fun d hd => (J.2.1 d hd).eq (o _ (by omega) (by omega) (by omega)), J.2.2.1.eq e12 (o _ (by omega) (by omega) (by omega)) (o _ (by omega) (by omega) (by omega)), (o _ (by omega) (by omega) (by omega)).trans J.pp, (o _ (by omega) (by omega) (by omega)).trans J.vv⟩
set_option maxRecDepth 100000 in
theorem S_X7_laysOf {C : zK} (hC : zCld 215 zTT C) {h : zH} {n : Nat} {K : zQ} {r d : Nat} {c : Nat → Int32} {σ : zS} {M Q : zB} {pl vl : Nat → Int32} (J : zJ h r c σ Q pl vl) (W : zwf σ) (hd : d < 2) (HM : zYm h r c M) (hpl : ∀ i, i < (zba σ).length → pl i = zpR (zplc σ i) ∧ (zplc σ i ≠ 3 → vl i = nI (zcnt σ i))) (hMo : zMo σ d 0 M) (H1 : ∀ h' c', zJ h' r c' σ Q pl vl → zYm h' r c' (zpus σ d (zdr σ d).length 0 M) → (∀ j, j ≠ 9 → c' j = c j) → (∀ a, a ≠ r → a ≠ r + 5 → a ≠ r + 6 → h' a = h a) → K 0 none h' n) : C 163 [.ref r, .int (nI d)] h n K := by
  have hnb := J.1.bs
  have hL := J.1.ln d
  have hlt := J.1.lt d
  have hcl : ∀ i, zcnt σ i < 1000 := fun i => zcnt_lt (fun d v hv => (J.1.lt d v hv).2)
  refine zd_X7_laysOf hC rfl fun P hgo hF => ?_
  have loop : ∀ e k (h2 : zH) (c2 : Nat → Int32) (M2 : zB) (bh : Int32), k + e = (zdr σ d).length → zJ h2 r c2 σ Q pl vl → zYm h2 r c2 M2 → zMo σ d k M2 → zpus σ d e k M2 = zpus σ d (zdr σ d).length 0 M → (∀ j, j ≠ 9 → c2 j = c j) → (∀ a, a ≠ r → a ≠ r + 5 → a ≠ r + 6 → h2 a = h a) → ((bh = -1 ∧ zpb M2 (zdr σ d) k = 0) ∨ ∃ x j, bh = nI x ∧ x < 1000 ∧ zix M2 x = some j ∧ zpb M2 (zdr σ d) k = j + 1) → P 4 [some (.ref r), some (.int (nI d)), some (.int bh), some (.int (nI k)), none, none, none] [] h2 n 0 0 := by
    intro e
    induction e with
    | zero =>
      intro k h2 c2 M2 bh hk J2 HM2 hO2 hinv hc2 ho2 hbh
      have b1 := J2.ob
      refine hgo [4] 60 _ _ _ _ _ _ _ ?_
      conv => whnf
      refine ⟨_, b1, ?_⟩
      refine S_X7_sizeOf hC J2.1 hd ?_
      conv => whnf
      refine ⟨fun _ => ?_, fun q => absurd (nI_le (show (zdr σ d).length ≤ k by omega) (show k < 2 ^ 31 by omega)) q⟩
      conv => whnf
      exact H1 h2 c2 J2 (by rw [← hinv]; exact HM2) hc2 ho2
    | succ e ih =>
      intro k h2 c2 M2 bh hk J2 HM2 hO2 hinv hc2 ho2 hbh
      obtain ⟨b1, f, b2, b3⟩ := id J2.1
      have p9 := J2.pp
      have v9 := J2.vv
      obtain ⟨v, hv⟩ : ∃ v, (zdr σ d)[k]? = some v := ⟨(zdr σ d)[k], List.getElem?_eq_getElem (by omega)⟩
      have hvb := hlt v (List.mem_of_getElem? hv)
      have hM2l : M2.length ≤ 30 := HM2.2.2.1
      have hzp := zpb_le (M := M2) (L := zdr σ d) k
      have hzu : zpu σ d M2 k = if (zba σ).length ≤ v.1 then M2.insertIdx (zpb M2 (zdr σ d) k) v else if zplc σ v.1 = d then M2.insertIdx (zpb M2 (zdr σ d) k) (v.1, zcnt σ v.1) else M2 := by
        unfold zpu
        rw [hv]
      have hst := hO2.step W hd
      have tail : ∀ h3 c3, zJ h3 r c3 σ Q pl vl → zYm h3 r c3 (zpu σ d M2 k) → (∀ j, j ≠ 9 → c3 j = c2 j) → (∀ a, a ≠ r → a ≠ r + 5 → a ≠ r + 6 → h3 a = h2 a) → ((∀ w ∈ zpu σ d M2 k, w.1 ≠ v.1) → zpu σ d M2 k = M2) → P 110 [some (.ref r), some (.int (nI d)), some (.int bh), some (.int (nI k)), some (.int (nI v.1)), none, none] [] h3 n 0 0 := by
        intro h3 c3 J3 HM3 g3 g4 g5
        have k9 := fun bh' hb => ih (k + 1) h3 c3 (zpu σ d M2 k) bh' (by omega) J3 HM3 hst hinv (fun j hj => (g3 j hj).trans (hc2 j hj)) (fun a z1 z2 z3 => (g4 a z1 z2 z3).trans (ho2 a z1 z2 z3)) hb
        rw [← zinc (j := k)] at k9
        refine hgo [4] 60 _ _ _ _ _ _ _ ?_
        conv => whnf
        refine ⟨_, J3.ob, ?_⟩
        refine S_X7_mergedAt hC HM3 (by omega) ?_
        unfold zmA
        rcases zix_cs (zpu σ d M2 k) v.1 with ⟨j, w, -, a2, a3, a4, -, -⟩ | ⟨a1, a4, -, -⟩
        · have hj := (List.getElem?_eq_some_iff.mp a2).1
          have hM3l : (zpu σ d M2 k).length ≤ 30 := HM3.2.2.1
          rw [a4]
          conv => whnf
          refine ⟨fun z => absurd z (nI_ne_m1 (by omega)), fun _ => ?_⟩
          have k8 := k9 (nI v.1) (Or.inr ⟨v.1, j, rfl, by omega, a4, by
            show (match zix (zpu σ d M2 k) (znm (zdr σ d) k) with
              | some j => j + 1
              | none => zpb (zpu σ d M2 k) (zdr σ d) k) = j + 1
            rw [znm_at hv, a4]⟩)
          conv => whnf
          refine hF _ _ _ _ _ _ _ _ ?_ k8
          repeat (first | exact zf_0 | refine zf_s ?_ | refine zf_n ?_)
        · have hid := g5 a1
          rw [a4]
          conv => whnf
          refine ⟨fun _ => ?_, fun z => absurd rfl z⟩
          have hzz : zpb (zpu σ d M2 k) (zdr σ d) (k + 1) = zpb M2 (zdr σ d) k := by
            show (match zix (zpu σ d M2 k) (znm (zdr σ d) k) with
              | some j => j + 1
              | none => zpb (zpu σ d M2 k) (zdr σ d) k) = _
            rw [znm_at hv, a4, hid]
          have k8 := k9 bh (by
            rw [hzz, hid]
            exact hbh)
          conv => whnf
          refine hF _ _ _ _ _ _ _ _ ?_ k8
          repeat (first | exact zf_0 | refine zf_s ?_ | refine zf_n ?_)
      have p107 : ∀ y, y < 1000 → zpu σ d M2 k = M2.insertIdx (zpb M2 (zdr σ d) k) (v.1, y) → ((zba σ).length ≤ v.1 ∨ zplc σ v.1 = d) → P 107 [some (.ref r), some (.int (nI d)), some (.int bh), some (.int (nI k)), some (.int (nI v.1)), none, none] [.int (nI y), .int (nI v.1), .int (nI (zpb M2 (zdr σ d) k)), .ref r] h2 n 0 0 := by
        intro y hy hz hp
        refine hgo [110] 60 _ _ _ _ _ _ _ ?_
        conv => whnf
        refine ⟨_, b1, ?_⟩
        refine S_X7_lays hC HM2 hzp (hO2.room W hd hv hp) ⟨by omega, hy⟩ (hO2.new W hd hv hp) (fun h3 c3 g1 g2 g3 => ?_)
        have k9 := tail h3 c3 (J2.ly g1.ob (g2 12 (by decide)) g3) (by rw [hz]; exact g1) g2 g3 (fun hno => by
          rw [hz] at hno
          exact absurd rfl (hno (v.1, y) ((zmem_ins hzp).mpr (Or.inl rfl))))
        conv => whnf
        exact k9
      have p67 : ∀ o5 : Int32, P 84 [some (.ref r), some (.int (nI d)), some (.int bh), some (.int (nI k)), some (.int (nI v.1)), some (.int o5), none] [.int (nI (zpb M2 (zdr σ d) k)), .ref r] h2 n 0 0 → P 67 [some (.ref r), some (.int (nI d)), some (.int bh), some (.int (nI k)), some (.int (nI v.1)), some (.int o5), none] [] h2 n 0 0 := by
        intro o5 k9
        refine hgo [84] 60 _ _ _ _ _ _ _ ?_
        conv => whnf
        refine ⟨fun q => ?_, fun q => ?_⟩
        · rcases hbh with ⟨a1, -⟩ | ⟨x, j, a1, a2, a3, a4⟩
          · exact absurd a1 q
          · rw [a1] at k9 ⊢
            conv => whnf
            refine ⟨_, b1, ?_⟩
            refine S_X7_mergedAt hC HM2 a2 ?_
            unfold zmA
            rw [a3]
            conv => whnf
            rw [nI_1, ← a4]
            exact k9
        · rcases hbh with ⟨a1, a2⟩ | ⟨x, j, a1, a2, a3, a4⟩
          · rw [a2] at k9
            conv => whnf
            exact k9
          · exact absurd (a1.symm.trans q) (nI_ne_m1 (by omega))
      refine hgo [4, 67, 84, 107, 110] 60 _ _ _ _ _ _ _ ?_
      conv => whnf
      refine ⟨_, b1, ?_⟩
      refine S_X7_sizeOf hC J2.1 hd ?_
      conv => whnf
      refine ⟨fun q => absurd q (nI_ge (show k < (zdr σ d).length by omega) (show (zdr σ d).length < 2 ^ 31 by omega)), fun _ => ?_⟩
      conv => whnf
      refine ⟨_, b1, ?_⟩
      refine S_X7_numberAt hC J2.1 hd hv ?_
      conv => whnf
      refine ⟨_, b1, _, rfl, ?_⟩
      conv => whnf
      refine ⟨_, _, b2, vp_in_nI (n := 0) (by omega) (by decide), ?_⟩
      rw [show (0 : Int32).toNatClampNeg = 0 by decide, b3.1]
      conv => whnf
      refine ⟨fun q => ?_, fun q => ?_⟩
      · have hlt2 : v.1 < (zba σ).length := (nI_ltI (by omega) (by omega)).mp q
        obtain ⟨t1, t2⟩ := hpl v.1 hlt2
        rw [if_neg (by omega)] at hzu
        conv => whnf
        refine ⟨fun z => absurd rfl z, fun _ => ?_⟩
        conv => whnf
        refine ⟨_, b1, _, rfl, ?_⟩
        conv => whnf
        refine ⟨_, _, p9, vp_in_nI (show v.1 < 10 by omega) (by decide), ?_⟩
        rw [nI_clamp (show v.1 < 2 ^ 31 by omega), t1]
        conv => whnf
        refine ⟨fun q2 => ?_, fun q2 => ?_⟩
        · have hne : ¬ zplc σ v.1 = d := fun z => q2 ((zpR_2 zplc_le (by omega)).mpr z)
          rw [if_neg hne] at hzu
          have k9 := tail h2 c2 J2 (by rw [hzu]; exact HM2) (fun _ _ => rfl) (fun _ _ _ _ => rfl) (fun _ => hzu)
          conv => whnf
          refine ⟨fun _ => ?_, fun z => absurd rfl z⟩
          conv => whnf
          refine hF _ _ _ _ _ _ _ _ ?_ k9
          repeat (first | exact zf_0 | refine zf_s ?_ | refine zf_n ?_)
        · have heq : zplc σ v.1 = d := (zpR_2 zplc_le (by omega)).mp q2
          rw [if_pos heq] at hzu
          have k9 := p107 (zcnt σ v.1) (hcl _) hzu (Or.inr heq)
          have k8 : P 84 [some (.ref r), some (.int (nI d)), some (.int bh), some (.int (nI k)), some (.int (nI v.1)), some (.int 0), none] [.int (nI (zpb M2 (zdr σ d) k)), .ref r] h2 n 0 0 := by
            refine hgo [107] 60 _ _ _ _ _ _ _ ?_
            conv => whnf
            refine ⟨fun _ => ?_, fun z => absurd rfl z⟩
            conv => whnf
            refine ⟨_, b1, _, rfl, ?_⟩
            conv => whnf
            refine ⟨_, _, v9, vp_in_nI (show v.1 < 10 by omega) (by decide), ?_⟩
            rw [nI_clamp (show v.1 < 2 ^ 31 by omega), t2 (by omega)]
            conv => whnf
            refine hF _ _ _ _ _ _ _ _ ?_ k9
            repeat (first | exact zf_0 | refine zf_s ?_ | refine zf_n ?_)
          have k7 := p67 0 k8
          conv => whnf
          refine ⟨fun z => absurd z (by decide), fun _ => ?_⟩
          conv => whnf
          refine hF _ _ _ _ _ _ _ _ ?_ k7
          repeat (first | exact zf_0 | refine zf_s ?_ | refine zf_n ?_)
      · have hge : (zba σ).length ≤ v.1 := Nat.le_of_not_lt fun z => q ((nI_ltI (by omega) (by omega)).mpr z)
        rw [if_pos hge] at hzu
        have k9 := p107 v.2 hvb.2 hzu (Or.inl hge)
        have k8 : P 84 [some (.ref r), some (.int (nI d)), some (.int bh), some (.int (nI k)), some (.int (nI v.1)), some (.int 1), none] [.int (nI (zpb M2 (zdr σ d) k)), .ref r] h2 n 0 0 := by
          refine hgo [107] 60 _ _ _ _ _ _ _ ?_
          conv => whnf
          refine ⟨fun z => absurd z (by decide), fun _ => ?_⟩
          conv => whnf
          refine ⟨_, b1, ?_⟩
          refine S_X7_insideAt hC J2.1 hd hv ?_
          conv => whnf
          refine hF _ _ _ _ _ _ _ _ ?_ k9
          repeat (first | exact zf_0 | refine zf_s ?_ | refine zf_n ?_)
        have k7 := p67 1 k8
        conv => whnf
        refine ⟨fun _ => ?_, fun z => absurd z (by decide)⟩
        conv => whnf
        refine ⟨fun z => absurd z (by decide), fun _ => ?_⟩
        conv => whnf
        refine hF _ _ _ _ _ _ _ _ ?_ k7
        repeat (first | exact zf_0 | refine zf_s ?_ | refine zf_n ?_)
  refine hgo [4] 60 _ _ _ _ _ _ _ ?_
  conv => whnf
  exact loop (zdr σ d).length 0 h c M (-1) (by omega) J HM hMo rfl (fun _ _ => rfl) (fun _ _ _ _ => rfl) (Or.inl ⟨rfl, rfl⟩)

