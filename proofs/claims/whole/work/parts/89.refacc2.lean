/-! The reference: accept, the method -/
set_option maxRecDepth 100000 in
theorem S_acd {C : zK} (hC : zCld 215 zTT C) {n : Nat} {K : zQ} {r d : Nat} {c nf : Nat → Int32} {M : zB} {pf ac : Nat} {P : zP} (hgo : zGo zT_X7_accept C K P) (hF : zfgt P) (hd : d < 2) (hM : M.length ≤ 10) (c9 : c 9 = nI M.length) (hnf : ∀ j v, M[j]? = some v → nf j = nI v.2) : ∀ e k (g : zH) (f : Nat → Int32), k + e = M.length → g r = zRO r c → g (r + 1) = .inl (0, 106, .inl f) → g (r + 6) = .inl (0, 30, .inl nf) → zAc f M pf ac d k → (∀ h' f', h' r = zRO r c → h' (r + 1) = .inl (0, 106, .inl f') → zAc f' M pf ac d M.length → zOff (r + 1) (r + 2) g h' → P 119 [some (.ref r), some (.int (nI d)), none] [] h' n 0 0) → P 78 [some (.ref r), some (.int (nI d)), some (.int (nI k))] [] g n 0 0 := by
  intro e
  induction e with
  | zero =>
    intro k g f hk b1 b2 b6 hA G
    have hk2 : k = M.length := by omega
    rw [hk2] at hA ⊢
    have k9 := G g f b1 b2 hA zOff.rf
    refine hgo [78, 119] 60 _ _ _ _ _ _ _ ?_
    conv => whnf
    refine ⟨_, b1, _, rfl, ?_⟩
    conv => whnf
    rw [c9]
    refine ⟨fun _ => ?_, fun q => absurd (nI_le (Nat.le_refl _) (by omega)) q⟩
    conv => whnf
    refine hF _ _ _ _ _ _ _ _ ?_ k9
    repeat (first | exact zf_0 | refine zf_s ?_ | refine zf_n ?_)
  | succ e ih =>
    intro k g f hk b1 b2 b6 hA G
    obtain ⟨v, hv⟩ : ∃ v, M[k]? = some v := ⟨M[k], List.getElem?_eq_getElem (by omega)⟩
    refine hgo [78, 119] 60 _ _ _ _ _ _ _ ?_
    conv => whnf
    refine ⟨_, b1, _, rfl, ?_⟩
    conv => whnf
    rw [c9]
    refine ⟨fun q => absurd q (nI_ge (show k < M.length by omega) (by omega)), fun _ => ?_⟩
    conv => whnf
    refine ⟨_, b1, _, rfl, ?_⟩
    conv => whnf
    rw [show (2 : Int32) + nI k = nI (2 + k) from nI_add 2 k]
    refine ⟨_, b1, _, rfl, ?_⟩
    conv => whnf
    refine ⟨_, _, b6, vp_in_nI (show k < 30 by omega) (by decide), ?_⟩
    rw [nI_clamp (show k < 2 ^ 31 by omega), hnf k v hv]
    conv => whnf
    refine ⟨_, _, b2, vp_in_nI (show 2 + k < 106 by omega) (by decide), ?_⟩
    rw [nI_clamp (show 2 + k < 2 ^ 31 by omega)]
    conv => whnf
    have hA2 := hA.base hv hM hd
    have o2 : zOff (r + 1) (r + 2) g (zupd g (r + 1) (.inl (0, 106, .inl (upd f (2 + k) (nI v.2))))) := zOff.up (Nat.le_refl _) (by omega)
    have d1 := (o2 r (by omega)).trans b1
    have d2 := zupd_s (h := g) (a := r + 1) (c := .inl (0, 106, .inl (upd f (2 + k) (nI v.2))))
    have d6 := (o2 (r + 6) (by omega)).trans b6
    have hb : upd f (2 + k) (nI v.2) (2 + k) = nI v.2 := upd_s
    generalize zupd g (r + 1) (.inl (0, 106, .inl (upd f (2 + k) (nI v.2)))) = g2 at o2 d1 d2 d6 ⊢
    generalize upd f (2 + k) (nI v.2) = f2 at d2 hA2 hb
    refine ⟨_, d1, _, rfl, ?_⟩
    conv => whnf
    refine ⟨_, _, d6, vp_in_nI (show k < 30 by omega) (by decide), ?_⟩
    rw [nI_clamp (show k < 2 ^ 31 by omega), hnf k v hv]
    conv => whnf
    refine ⟨_, d1, ?_⟩
    refine S_rawPuts hC d1 d2 hd hA2.2.2.2.2.2.2.1 (by omega) (Nat.le_refl _) (fun h' f' g1 g2 g3 o => ?_)
    have k9 := ih (k + 1) h' f' (by omega) g1 g2 ((o _ (by omega)).trans d6) (hA2.next hv hM hd hb g3) (fun h9 f9 q1 q2 q3 q4 => G h9 f9 q1 q2 q3 ((o2.tr o).tr q4))
    rw [← zinc (j := k)] at k9
    conv => whnf
    exact k9
set_option maxRecDepth 100000 in
theorem S_X7_accept {C : zK} (hC : zCld 215 zTT C) {h : zH} {n : Nat} {K : zQ} {r th : Nat} {A : zA} (H : zY h r A th) (W : zwA A) (H1 : ∀ h', zY h' r (zoC (zcT A.1) A).2.1 (zoC (zcT A.1) A).1 → zOff r (r + 12) h h' → K 0 (some (.int (zoC (zcT A.1) A).2.2)) h' n) : C 175 [.ref r] h n K := by
  obtain ⟨c, H, -⟩ := H
  have hsl := W.2.2.1
  refine zd_X7_accept hC rfl fun P hgo hF => ?_
  refine hgo [21, 25] 60 _ _ _ _ _ _ _ ?_
  conv => whnf
  refine ⟨_, H.ob, ?_⟩
  refine S_ymerges hC H W.1 (fun h3 c3 H3 M3 Q3 g3 o3 => ?_)
  have hml : (zmer A.1).length ≤ 30 := M3.2.2.1
  have hm2 := M3.2.2.2.1
  have hop : zopn A.1 (zQ0 A.1) ≤ 20 := Nat.le_trans (List.length_filter_le _ _) Q3.2.1
  have no : (0 < zopn A.1 (zQ0 A.1) ∨ 10 < (zmer A.1).length) → P 21 [some (.ref r), none, none] [.ref r] h3 n 0 0 := by
    intro g
    have e1 : zcT A.1 = (1, A.1, 0) := if_pos g
    rw [e1] at H1
    refine hgo [] 60 _ _ _ _ _ _ _ ?_
    conv => whnf
    refine ⟨_, H3.ob, ?_⟩
    refine S_yref2 hC H3 (k := 1) (by decide) (fun _ h4 c4 H4 e4 o4 => ?_) (fun z => absurd z (by decide))
    conv => whnf
    refine ⟨fun z => absurd z (by decide), fun _ => ?_⟩
    conv => whnf
    exact H1 h4 ⟨c4, H4, e4⟩ (o3.tr (o4.wd (by omega) (by omega)))
  have yes : ¬ (0 < zopn A.1 (zQ0 A.1) ∨ 10 < (zmer A.1).length) → P 25 [some (.ref r), none, none] [.ref r] h3 n 0 0 := by
    intro g
    have hM : (zmer A.1).length ≤ 10 := by omega
    have e1 : zcT A.1 = (0, (zre (zmer A.1), zre (zmer A.1), zre (zmer A.1), (zmer A.1).length, zpf A.1, zac A.1 + 1, fun _ => -1), nI (zmer A.1).length) := if_neg g
    rw [e1] at H1
    have G : ∀ h', zY h' r ((zre (zmer A.1), zre (zmer A.1), zre (zmer A.1), (zmer A.1).length, zpf A.1, zac A.1 + 1, fun _ => -1), (A.1 :: A.2.1).take 6, A.2.2) 0 → zOff r (r + 12) h h' → K 0 (some (.int (nI (zmer A.1).length))) h' n := H1
    generalize hMM : zmer A.1 = M at G hM hml hm2 M3
    refine hgo [60] 60 _ _ _ _ _ _ _ ?_
    conv => whnf
    refine ⟨_, H3.ob, ?_⟩
    refine S_yref2 hC H3 (k := 0) (by decide) (fun z => absurd z (by decide)) (fun _ h4 c4 H4 e4 g4 o4 => ?_)
    conv => whnf
    refine ⟨fun _ => ?_, fun z => absurd rfl z⟩
    conv => whnf
    refine ⟨_, H4.ob, ?_⟩
    refine S_ysave2 hC H4 hsl (fun h5 c5 H5 e5 o5 => ?_)
    have c59 : c5 9 = nI M.length := (e5 9 (by decide)).trans ((g4 9 (by decide)).trans M3.2.1)
    obtain ⟨-, -, -, -, -, mf, nf, m6, m7, m8⟩ := id M3
    have x6 := ((o5 (r + 6) (by omega) (by omega)).trans (o4 _ (by omega))).trans m7
    have oo : zOff r (r + 12) h h5 := (o3.tr (o4.wd (by omega) (by omega))).tr (fun a ha => o5 a (by omega) (by omega))
    have fin : ∀ h9 f9, h9 r = zRO r c5 → h9 (r + 1) = .inl (0, 106, .inl f9) → zRs f9 (zre M, zre M, zre M, M.length, zpf A.1, zac A.1 + 1, fun _ => -1) → zOff (r + 1) (r + 2) h5 h9 → K 0 (some (.int (nI M.length))) h9 n := fun h9 f9 q1 q2 q3 q4 => G h9 ⟨c5, H5.put ⟨q1, f9, q2, q3⟩ q4, (e5 5 (by decide)).trans e4⟩ (oo.tr (q4.wd (by omega) (by omega)))
    obtain ⟨b1, f, b2, b3⟩ := id H5.1
    have b104 : f 104 = nI (zpf A.1) := b3.2.2.2.2.2.1
    have b105 : f 105 = nI (zac A.1) := b3.2.2.2.2.2.2.1
    have last : ∀ (h6 : zH) (f6 : Nat → Int32), h6 r = zRO r c5 → h6 (r + 1) = .inl (0, 106, .inl f6) → zAc f6 M (zpf A.1) (zac A.1) 1 M.length → zOff (r + 1) (r + 2) h5 h6 → P 125 [some (.ref r), none, none] [] h6 n 0 0 := by
      intro h6 f6 q1 q2 q3 q4
      have loop : ∀ e k (h7 : zH) (f7 : Nat → Int32), k + e = 104 → 74 ≤ k → h7 r = zRO r c5 → h7 (r + 1) = .inl (0, 106, .inl f7) → (∀ w, f7 w = if 74 ≤ w ∧ w < k then 0 else f6 w) → zOff (r + 1) (r + 2) h5 h7 → P 128 [some (.ref r), some (.int (nI k)), none] [] h7 n 0 0 := by
        intro e
        induction e with
        | zero =>
          intro k h7 f7 hk hk2 t1 t2 t3 t4
          rw [show k = 104 by omega] at t3 ⊢
          have t5 : f7 105 = nI (zac A.1) := by rw [t3, if_neg (by omega)]; exact q3.2.2.2.1
          refine hgo [128] 60 _ _ _ _ _ _ _ ?_
          conv => whnf
          refine ⟨fun _ => ?_, fun q => absurd (by decide) q⟩
          conv => whnf
          refine ⟨_, t1, _, rfl, ?_⟩
          conv => whnf
          refine ⟨_, _, t2, vp_in_nI (n := 105) (by omega) (by decide), ?_⟩
          rw [show (105 : Int32).toNatClampNeg = 105 by decide, t5]
          conv => whnf
          rw [nI_1]
          refine ⟨_, _, t2, vp_in_nI (n := 105) (by omega) (by decide), ?_⟩
          rw [show (105 : Int32).toNatClampNeg = 105 by decide]
          conv => whnf
          have o9 : zOff (r + 1) (r + 2) h7 (zupd h7 (r + 1) (.inl (0, 106, .inl (upd f7 105 (nI (zac A.1 + 1)))))) := zOff.up (Nat.le_refl _) (by omega)
          have u1 := (o9 r (by omega)).trans t1
          have u2 := zupd_s (h := h7) (a := r + 1) (c := .inl (0, 106, .inl (upd f7 105 (nI (zac A.1 + 1)))))
          refine ⟨_, u1, _, rfl, ?_⟩
          conv => whnf
          rw [c59]
          refine fin _ _ u1 u2 (q3.end hM (fun v hv => (hm2 v hv).2) (fun w => ?_)) (t4.tr o9)
          by_cases c1 : w = 105
          · rw [c1, upd_s, if_pos rfl]
          · rw [upd_n c1, if_neg c1, t3]
        | succ e ih =>
          intro k h7 f7 hk hk2 t1 t2 t3 t4
          refine hgo [128] 60 _ _ _ _ _ _ _ ?_
          conv => whnf
          refine ⟨fun q => absurd q (nI_ge (show k < 104 by omega) (by decide)), fun _ => ?_⟩
          conv => whnf
          refine ⟨_, t1, _, rfl, ?_⟩
          conv => whnf
          refine ⟨_, _, t2, vp_in_nI (show k < 106 by omega) (by decide), ?_⟩
          rw [nI_clamp (show k < 2 ^ 31 by omega)]
          conv => whnf
          have o9 : zOff (r + 1) (r + 2) h7 (zupd h7 (r + 1) (.inl (0, 106, .inl (upd f7 k 0)))) := zOff.up (Nat.le_refl _) (by omega)
          have k9 := ih (k + 1) _ (upd f7 k 0) (by omega) (by omega) ((o9 r (by omega)).trans t1) (zupd_s (h := h7) (a := r + 1) (c := .inl (0, 106, .inl (upd f7 k 0)))) (fun w => by
            by_cases c1 : w = k
            · rw [c1, upd_s, if_pos (by omega)]
            · rw [upd_n c1, t3]
              by_cases c2 : 74 ≤ w ∧ w < k
              · rw [if_pos c2, if_pos (by omega)]
              · rw [if_neg c2, if_neg (by omega)]) (t4.tr o9)
          rw [← zinc (j := k)] at k9
          exact k9
      have k9 := loop 30 74 h6 f6 (by decide) (by decide) q1 q2 (fun w => by rw [if_neg (by omega)]) q4
      refine hgo [128] 60 _ _ _ _ _ _ _ ?_
      conv => whnf
      exact k9
    have outer : ∀ e d (h6 : zH) (f6 : Nat → Int32), d + e = 1 → h6 r = zRO r c5 → h6 (r + 1) = .inl (0, 106, .inl f6) → h6 (r + 6) = .inl (0, 30, .inl nf) → zAc (upd f6 (12 + 31 * d) 0) M (zpf A.1) (zac A.1) d 0 → zOff (r + 1) (r + 2) h5 h6 → P 60 [some (.ref r), some (.int (nI d)), none] [] h6 n 0 0 := by
      intro e
      induction e with
      | zero =>
        intro d h6 f6 hd q1 q2 q6 q3 q4
        rw [show d = 1 by omega] at q3 ⊢
        have o9 : zOff (r + 1) (r + 2) h6 (zupd h6 (r + 1) (.inl (0, 106, .inl (upd f6 (12 + 31 * 1) 0)))) := zOff.up (Nat.le_refl _) (by omega)
        have p1 : ∀ h8 f8, h8 r = zRO r c5 → h8 (r + 1) = .inl (0, 106, .inl f8) → zAc f8 M (zpf A.1) (zac A.1) 1 M.length → zOff (r + 1) (r + 2) (zupd h6 (r + 1) (.inl (0, 106, .inl (upd f6 (12 + 31 * 1) 0)))) h8 → P 119 [some (.ref r), some (.int (nI 1)), none] [] h8 n 0 0 := by
          intro h8 f8 t1 t2 t3 t4
          have k8 := last h8 f8 t1 t2 t3 ((q4.tr o9).tr t4)
          refine hgo [125] 60 _ _ _ _ _ _ _ ?_
          conv => whnf
          refine ⟨fun _ => ?_, fun z => absurd (by decide) z⟩
          conv => whnf
          refine hF _ _ _ _ _ _ _ _ ?_ k8
          repeat (first | exact zf_0 | refine zf_s ?_ | refine zf_n ?_)
        have k9 := S_acd hC hgo hF (n := n) (d := 1) (by decide) hM c59 (fun j v hv => (m8 j v hv).2) M.length 0 _ _ (by omega) ((o9 r (by omega)).trans q1) (zupd_s (h := h6) (a := r + 1) (c := .inl (0, 106, .inl (upd f6 (12 + 31 * 1) 0)))) ((o9 _ (by omega)).trans q6) q3 p1
        refine hgo [60, 78] 60 _ _ _ _ _ _ _ ?_
        conv => whnf
        refine ⟨fun z => absurd z (by decide), fun _ => ?_⟩
        conv => whnf
        refine ⟨_, q1, _, rfl, ?_⟩
        conv => whnf
        refine S_X7_at hC (d := 1) (w := 0) ?_
        conv => whnf
        refine ⟨_, _, q2, vp_in_nI (show 12 + 31 * 1 + 0 < 106 by omega) (by decide), ?_⟩
        rw [nI_clamp (show 12 + 31 * 1 + 0 < 2 ^ 31 by omega)]
        conv => whnf
        exact k9
      | succ e ih =>
        intro d h6 f6 hd q1 q2 q6 q3 q4
        rw [show d = 0 by omega] at q3 ⊢
        have o9 : zOff (r + 1) (r + 2) h6 (zupd h6 (r + 1) (.inl (0, 106, .inl (upd f6 (12 + 31 * 0) 0)))) := zOff.up (Nat.le_refl _) (by omega)
        have k9 := S_acd hC hgo hF (n := n) (d := 0) (by decide) hM c59 (fun j v hv => (m8 j v hv).2) M.length 0 _ _ (by omega) ((o9 r (by omega)).trans q1) (zupd_s (h := h6) (a := r + 1) (c := .inl (0, 106, .inl (upd f6 (12 + 31 * 0) 0)))) ((o9 _ (by omega)).trans q6) q3 (fun h8 f8 t1 t2 t3 t4 => by
          have k8 := ih 1 h8 f8 (by omega) t1 t2 ((t4 _ (by omega)).trans ((o9 _ (by omega)).trans q6)) (t3.draft hM (by decide) |>.resolve_right (by decide)) ((q4.tr o9).tr t4)
          rw [← zinc (j := 0)] at k8
          refine hgo [60] 20 _ _ _ _ _ _ _ ?_
          conv => whnf
          exact k8)
        refine hgo [60, 78] 60 _ _ _ _ _ _ _ ?_
        conv => whnf
        refine ⟨fun z => absurd z (by decide), fun _ => ?_⟩
        conv => whnf
        refine ⟨_, q1, _, rfl, ?_⟩
        conv => whnf
        refine S_X7_at hC (d := 0) (w := 0) ?_
        conv => whnf
        refine ⟨_, _, q2, vp_in_nI (show 12 + 31 * 0 + 0 < 106 by omega) (by decide), ?_⟩
        rw [nI_clamp (show 12 + 31 * 0 + 0 < 2 ^ 31 by omega)]
        conv => whnf
        exact k9
    conv => whnf
    refine ⟨_, b1, _, rfl, ?_⟩
    conv => whnf
    refine ⟨_, b1, _, rfl, ?_⟩
    conv => whnf
    rw [c59]
    refine ⟨_, _, b2, vp_in_nI (n := 0) (by omega) (by decide), ?_⟩
    rw [show (0 : Int32).toNatClampNeg = 0 by decide]
    conv => whnf
    have o6 : zOff (r + 1) (r + 2) h5 (zupd h5 (r + 1) (.inl (0, 106, .inl (upd f 0 (nI M.length))))) := zOff.up (Nat.le_refl _) (by omega)
    have s1 := (o6 r (by omega)).trans b1
    have s2 := zupd_s (h := h5) (a := r + 1) (c := .inl (0, 106, .inl (upd f 0 (nI M.length))))
    have s6 := (o6 (r + 6) (by omega)).trans x6
    generalize zupd h5 (r + 1) (.inl (0, 106, .inl (upd f 0 (nI M.length)))) = h6 at o6 s1 s2 s6 ⊢
    refine ⟨_, s1, _, rfl, ?_⟩
    conv => whnf
    refine ⟨_, s1, _, rfl, ?_⟩
    conv => whnf
    rw [c59]
    refine ⟨_, _, s2, vp_in_nI (n := 1) (by omega) (by decide), ?_⟩
    rw [show (1 : Int32).toNatClampNeg = 1 by decide]
    conv => whnf
    have o7 : zOff (r + 1) (r + 2) h6 (zupd h6 (r + 1) (.inl (0, 106, .inl (upd (upd f 0 (nI M.length)) 1 (nI M.length))))) := zOff.up (Nat.le_refl _) (by omega)
    have u1 := (o7 r (by omega)).trans s1
    have u2 := zupd_s (h := h6) (a := r + 1) (c := .inl (0, 106, .inl (upd (upd f 0 (nI M.length)) 1 (nI M.length))))
    have u6 := (o7 (r + 6) (by omega)).trans s6
    exact outer 1 0 _ _ rfl u1 u2 u6 ⟨(upd_n (by decide)).trans ((upd_n (by decide)).trans upd_s), (upd_n (by decide)).trans upd_s, (upd_n (by decide)).trans ((upd_n (by decide)).trans ((upd_n (by decide)).trans b104)), (upd_n (by decide)).trans ((upd_n (by decide)).trans ((upd_n (by decide)).trans b105)), fun j v hv hj => hj.elim (fun z => absurd z (Nat.not_lt_zero _)) (fun z => absurd z (Nat.lt_irrefl _)), fun d' hd' => absurd hd' (Nat.not_lt_zero _), upd_s, fun j v hv hj => absurd hj (Nat.not_lt_zero _)⟩ (o6.tr o7)
  conv => whnf
  refine ⟨_, H3.ob, ?_⟩
  refine S_X7_openOnes hC H3.1 Q3 ?_
  conv => whnf
  refine ⟨fun q => ?_, fun q => ?_⟩
  · have k9 := no (Or.inl ((nI_ltI (a := 0) (by decide) (by omega)).mp q))
    conv => whnf
    exact k9
  · have hop0 : ¬ 0 < zopn A.1 (zQ0 A.1) := fun z => q ((nI_ltI (a := 0) (by decide) (by omega)).mpr z)
    conv => whnf
    refine ⟨_, H3.ob, _, rfl, ?_⟩
    conv => whnf
    rw [M3.2.1]
    refine ⟨fun q2 => ?_, fun q2 => ?_⟩
    · have k9 := yes (fun z => z.elim hop0 (fun y => absurd ((nI_leI (b := 10) (by omega) (by decide)).mp q2) (by omega)))
      conv => whnf
      exact k9
    · have k9 := no (Or.inr (Nat.lt_of_not_le fun y => q2 ((nI_leI (b := 10) (by omega) (by decide)).mpr y)))
      conv => whnf
      exact k9

