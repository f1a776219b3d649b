/-! The reference: run -/
set_option maxRecDepth 100000 in
theorem S_X7_run {C : zK} (hC : zCld 215 zTT C) {h : zH} {n : Nat} {K : zQ} {r th : Nat} {A : zA} (H : zY h r A th) (W : zwA A) (H1 : ∀ h', zY h' r (zoR A).2.1 (zoR A).1 → zOff r (r + 12) h h' → K 0 (some (.int (zoR A).2.2)) h' n) : C 189 [.ref r] h n K := by
  obtain ⟨c, H, -⟩ := H
  have hT := W.2.2.2.2
  have hl := W.2.2.2.1
  have hsl := W.2.2.1
  have hz := zrW_fe hT (A.2.2.length + 1) 0 (by omega) (Nat.zero_le _)
  rw [show A.2.2.drop 0 = A.2.2 from rfl, Nat.zero_add] at hz
  unfold zoR at H1
  refine zd_X7_run hC rfl fun P hgo hF => ?_
  refine hgo [34, 91] 60 _ _ _ _ _ _ _ ?_
  conv => whnf
  refine ⟨_, H.ob, ?_⟩
  refine S_X7_isWhole hC H hl (fun h2 c2 H2 f2 o2 => ?_)
  cases hw : (zrW A.2.2 (A.2.2.length + 1) 0).1 with
  | true =>
    rw [if_neg (hz.2 hw).2] at H1
    have w0 : zbw (!true) = 0 := rfl
    rw [w0]
    conv => whnf
    refine ⟨fun _ => ?_, fun z => absurd rfl z⟩
    conv => whnf
    refine ⟨_, H2.ob, ?_⟩
    refine S_yref2 hC H2.1 (k := 1) (by decide) (fun _ h4 c4 H4 e4 o4 => ?_) (fun z => absurd z (by decide))
    conv => whnf
    refine ⟨fun z => absurd z (by decide), fun _ => ?_⟩
    conv => whnf
    exact H1 h4 ⟨c4, H4, e4⟩ ((o2.wd (by omega) (by omega)).tr (o4.wd (by omega) (by omega)))
  | false =>
    have hwt : zwt A.2.2 0 := ⟨Nat.zero_le _, by rw [Nat.zero_add]; exact (hz.1 hw).1, (hz.1 hw).2⟩
    rw [if_pos (hz.1 hw)] at H1
    have w0 : zbw (!false) = 1 := rfl
    rw [w0]
    have e17 : c2 17 = 0 := by
      have := H2.2.2
      rw [hw] at this
      exact this
    conv => whnf
    refine ⟨fun z => absurd z (by decide), fun _ => ?_⟩
    conv => whnf
    refine ⟨_, H2.ob, ?_⟩
    refine S_yref2 hC H2.1 (k := 0) (by decide) (fun z => absurd z (by decide)) (fun _ h4 c4 H4 e4 g4 o4 => ?_)
    conv => whnf
    refine ⟨fun _ => ?_, fun z => absurd rfl z⟩
    conv => whnf
    refine ⟨_, H4.ob, ?_⟩
    refine S_ysave2 hC H4 hsl (fun h5 c5 H5 e5 o5 => ?_)
    have o15 : zOff r (r + 12) h h5 := ((o2.wd (by omega) (by omega)).tr (o4.wd (by omega) (by omega))).tr (fun a ha => o5 a (by omega) (by omega))
    have c517 : c5 17 = 0 := (e5 17 (by decide)).trans ((g4 17 (by decide)).trans e17)
    have c55 : c5 5 = nI 0 := (e5 5 (by decide)).trans e4
    generalize hSv : (A.1 :: A.2.1).take 6 = Sv at H5 H1
    have p91 : ∀ h6 c6 σ (n2 : Nat), zYc h6 r c6 (σ, Sv, A.2.2) → c6 5 = nI 0 → zOff r (r + 12) h h6 → (n2, σ) = zet A.2.2 zq0 A.1 0 → P 91 [some (.ref r), some (.int (nI n2)), none, none] [] h6 n 0 0 := by
      intro h6 c6 σ n2 H6 f5 o6 hr
      rw [← hr] at H1
      obtain ⟨⟨q1, f, q2, q3⟩, ⟨bf, q4, q5⟩, ⟨tf, q6, q7⟩, q8, q9, q10⟩ := H6
      have o7 : zOff r (r + 12) h6 (zupd h6 r (zRO r (upd c6 4 0))) := zOff.up (Nat.le_refl _) (by omega)
      have k9 := H1 (zupd h6 r (zRO r (upd c6 4 0))) ⟨upd c6 4 0, ⟨⟨zupd_s, f, (zupd_n (by omega)).trans q2, q3⟩, ⟨bf, (zupd_n (by omega)).trans q4, q5⟩, ⟨tf, (zupd_n (by omega)).trans q6, fun j x hx => nomatch hx⟩, q8.eq (fun a h5 h6 => zupd_n (by omega)), (upd_n (by decide)).trans q9, upd_s⟩, (upd_n (by decide)).trans f5⟩ (o6.tr o7)
      refine hgo [] 40 _ _ _ _ _ _ _ ?_
      conv => whnf
      refine ⟨_, q1, Nat.le_of_ble_eq_true rfl, ⟨rfl, rfl⟩, ?_⟩
      conv => whnf
      exact k9
    have loop : ∀ e s h6 c6 σ (n2 : Nat), A.2.2.length + 1 ≤ s + e → zwf σ → zPr h6 r c6 (σ, Sv, A.2.2) (false, s) → c6 5 = nI 0 → zOff r (r + 12) h h6 → ((s = A.2.2.length + 1 ∧ (n2, σ) = zet A.2.2 zq0 A.1 0) ∨ (zwt A.2.2 s ∧ zet (A.2.2.drop s) zq0 σ n2 = zet A.2.2 zq0 A.1 0)) → P 34 [some (.ref r), some (.int (nI n2)), some (.int 1), none] [] h6 n 0 0 := by
      intro e
      induction e with
      | zero =>
        intro s h6 c6 σ n2 h8 Wσ H6 f5 o6 hc
        rcases hc with ⟨hs, hr⟩ | ⟨hs, -⟩
        · have k9 := p91 h6 c6 σ n2 H6.1 f5 o6 hr
          have e16 : c6 16 = nI s := H6.2.1
          have e4 : c6 4 = nI A.2.2.length := H6.1.2.2.2.2.2
          refine hgo [34, 91] 60 _ _ _ _ _ _ _ ?_
          conv => whnf
          refine ⟨fun z => absurd z (by decide), fun _ => ?_⟩
          conv => whnf
          refine ⟨_, H6.ob, _, rfl, ?_⟩
          conv => whnf
          rw [e16]
          refine ⟨_, H6.ob, _, rfl, ?_⟩
          conv => whnf
          rw [e4]
          refine ⟨fun _ => ?_, fun z => absurd (nI_le (show A.2.2.length ≤ s by omega) (by omega)) z⟩
          conv => whnf
          refine hF _ _ _ _ _ _ _ _ ?_ k9
          repeat (first | exact zf_0 | refine zf_s ?_ | refine zf_n ?_)
        · have := zwt_lt hs
          omega
      | succ e ih =>
        intro s h6 c6 σ n2 h8 Wσ H6 f5 o6 hc
        have e16 : c6 16 = nI s := H6.2.1
        have e4 : c6 4 = nI A.2.2.length := H6.1.2.2.2.2.2
        rcases hc with ⟨hs, hr⟩ | ⟨hs, hr⟩
        · have k9 := p91 h6 c6 σ n2 H6.1 f5 o6 hr
          refine hgo [34, 91] 60 _ _ _ _ _ _ _ ?_
          conv => whnf
          refine ⟨fun z => absurd z (by decide), fun _ => ?_⟩
          conv => whnf
          refine ⟨_, H6.ob, _, rfl, ?_⟩
          conv => whnf
          rw [e16]
          refine ⟨_, H6.ob, _, rfl, ?_⟩
          conv => whnf
          rw [e4]
          refine ⟨fun _ => ?_, fun z => absurd (nI_le (show A.2.2.length ≤ s by omega) (by omega)) z⟩
          conv => whnf
          refine hF _ _ _ _ _ _ _ _ ?_ k9
          repeat (first | exact zf_0 | refine zf_s ?_ | refine zf_n ?_)
        · have hlt := zwt_lt hs
          obtain ⟨q', t, y1, y2, y3, y4, y5, y6, y7, y8, y9, y10⟩ := zcmd_run hT hs
          rw [y4] at hr
          refine hgo [34, 74, 80, 91] 60 _ _ _ _ _ _ _ ?_
          conv => whnf
          refine ⟨fun z => absurd z (by decide), fun _ => ?_⟩
          conv => whnf
          refine ⟨_, H6.ob, _, rfl, ?_⟩
          conv => whnf
          rw [e16]
          refine ⟨_, H6.ob, _, rfl, ?_⟩
          conv => whnf
          rw [e4]
          refine ⟨fun z => absurd z (nI_ge hlt (by omega)), fun _ => ?_⟩
          conv => whnf
          refine ⟨_, H6.ob, ?_⟩
          refine S_X7_command hC H6 hl (by show s ≤ 800; omega) (fun h7 c7 H7 m7 o7 => ?_)
          have y1' : zrCp ((σ, Sv, A.2.2) : zA).2.2 (false, s) = (false, t) := y1
          rw [y1'] at H7
          obtain ⟨m18, m19, m20, m21, mj⟩ := m7
          have e716 : c7 16 = nI t := H7.2.1
          have H8 : zPr (zupd h7 r (zRO r (upd c7 16 (nI t + 1)))) r (upd c7 16 (nI t + 1)) (σ, Sv, A.2.2) (false, t + 1) := ⟨H7.1.fld (upd_n (by decide)) (upd_n (by decide)), upd_s.trans (nI_1 _), (upd_n (by decide)).trans H7.2.2⟩
          have f85 : upd c7 16 (nI t + 1) 5 = nI 0 := (upd_n (by decide)).trans ((mj 5 (by decide)).trans f5)
          have o8 : zOff r (r + 12) h (zupd h7 r (zRO r (upd c7 16 (nI t + 1)))) := (o6.tr (o7.wd (by omega) (by omega))).tr (zOff.up (Nat.le_refl _) (by omega))
          have g18 : upd c7 16 (nI t + 1) 18 = zrV A.2.2 (false, s) := (upd_n (by decide)).trans m18
          have g19 : upd c7 16 (nI t + 1) 19 = zrCl A.2.2 (false, s) := (upd_n (by decide)).trans m19
          have g20 : upd c7 16 (nI t + 1) 20 = zrCf A.2.2 (false, s) := (upd_n (by decide)).trans m20
          have g21 : upd c7 16 (nI t + 1) 21 = zrCs A.2.2 (false, s) (c6 21) := (upd_n (by decide)).trans m21
          have hk : zrK (upd c7 16 (nI t + 1) 19) = true := by rw [g19, ← y6]; exact y9
          have hx : zxc q' σ = zxc (upd c7 16 (nI t + 1) 18, upd c7 16 (nI t + 1) 19, upd c7 16 (nI t + 1) 20, 0, upd c7 16 (nI t + 1) 21) σ := zxc_q (y5.trans g18.symm) (y6.trans g19.symm) (y7.trans g20.symm) (fun z => (y8 z _).trans g21.symm)
          conv => whnf
          refine ⟨_, H7.ob, _, rfl, ?_⟩
          conv => whnf
          rw [e716]
          refine ⟨_, H7.ob, Nat.le_of_ble_eq_true rfl, ⟨rfl, rfl⟩, ?_⟩
          conv => whnf
          refine (show ∀ (h8 : zH) (c8 : Nat → Int32), zPr h8 r c8 (σ, Sv, A.2.2) (false, t + 1) → c8 5 = nI 0 → zOff r (r + 12) h h8 → zrK (c8 19) = true → zxc q' σ = zxc (c8 18, c8 19, c8 20, 0, c8 21) σ → ∃ fs, h8 r = .inr (7, fs) ∧ C 187 [.ref r] h8 n (zback (zrun zT_X7_run C K P [34, 74, 80, 91] 35) 67 [some (.ref r), some (.int (nI n2)), some (.int 1), none] [] 0 0) from ?_) _ _ H8 f85 o8 hk hx
          clear H8 f85 o8 hk hx
          intro h8 c8 H8 f85 o8 hk hx
          refine ⟨_, H8.ob, ?_⟩
          refine S_X7_bars hC H8.1.1 hk ?_
          rw [← hx]
          have nn : ¬ (zxc q' σ).1 = 0 → P 74 [some (.ref r), some (.int (nI n2)), none, none] [] h8 n 0 0 := by
            intro g
            have hr2 : (n2, σ) = zet A.2.2 zq0 A.1 0 := by
              rw [← hr]
              rcases y10 with z | ⟨z1, -, -⟩
              · rw [List.drop_of_length_le (by omega)]
                exact (if_neg g).symm
              · rw [zdropT z1]
                show _ = if (59 : Int32) = 59 then (if (zxc q' σ).1 = 0 then _ else (n2, σ)) else _
                rw [if_pos rfl, if_neg g]
            have k9 := p91 h8 c8 σ n2 H8.1 f85 o8 hr2
            refine hgo [34, 91] 40 _ _ _ _ _ _ _ ?_
            conv => whnf
            refine ⟨fun _ => ?_, fun z => absurd rfl z⟩
            conv => whnf
            refine hgo [91] 40 _ _ _ _ _ _ _ ?_
            conv => whnf
            refine ⟨fun _ => ?_, fun z => absurd rfl z⟩
            conv => whnf
            refine hF _ _ _ _ _ _ _ _ ?_ k9
            repeat (first | exact zf_0 | refine zf_s ?_ | refine zf_n ?_)
          have yy : (zxc q' σ).1 = 0 → P 80 [some (.ref r), some (.int (nI n2)), some (.int 1), none] [] h8 n 0 0 := by
            intro g
            have h0 : (zxc (c8 18, c8 19, c8 20, 0, c8 21) σ).1 = 0 := by rw [← hx]; exact g
            have W8 : zwf (zxc q' σ).2.1 := zxc_wf Wσ
            have hr2 : ((t + 1 = A.2.2.length + 1 ∧ (n2 + 1, (zxc q' σ).2.1) = zet A.2.2 zq0 A.1 0) ∨ (zwt A.2.2 (t + 1) ∧ zet (A.2.2.drop (t + 1)) zq0 (zxc q' σ).2.1 (n2 + 1) = zet A.2.2 zq0 A.1 0)) := by
              rw [← hr]
              rcases y10 with z | ⟨z1, z2, z3⟩
              · refine Or.inl ⟨by omega, ?_⟩
                rw [List.drop_of_length_le (by omega)]
                exact (if_pos g).symm
              · refine Or.inr ⟨z3, ?_⟩
                rw [zdropT z1]
                show _ = if (59 : Int32) = 59 then (if (zxc q' σ).1 = 0 then zet (A.2.2.drop (t + 1)) (ztk q' 59).2 (zxc q' σ).2.1 (n2 + 1) else (n2, σ)) else _
                rw [if_pos rfl, if_pos g, z2]
            refine hgo [34] 40 _ _ _ _ _ _ _ ?_
            conv => whnf
            refine ⟨_, H8.ob, ?_⟩
            refine S_X7_does hC H8.1 Wσ hk h0 (fun h9 v H9 o9 => ?_)
            rw [← hx] at H9
            have k9 := ih (t + 1) h9 c8 (zxc q' σ).2.1 (n2 + 1) (by omega) W8 ⟨H9, H8.2⟩ f85 (o8.tr (o9.wd (by omega) (by omega))) hr2
            rw [← zinc (j := n2)] at k9
            conv => whnf
            refine hF _ _ _ _ _ _ _ _ ?_ k9
            repeat (first | exact zf_0 | refine zf_s ?_ | refine zf_n ?_)
          conv => whnf
          refine ⟨fun g => ?_, fun g => ?_⟩
          · have k9 := nn (fun z => g (by rw [z]; rfl))
            conv => whnf
            refine hF _ _ _ _ _ _ _ _ ?_ k9
            repeat (first | exact zf_0 | refine zf_s ?_ | refine zf_n ?_)
          · have hb : (zxc q' σ).1 < 2 ^ 31 := by
              have hb2 : (zxc q' σ).1 ≤ 9 := by
                unfold zxc
                split
                · rcases zcE_cs q'.1 q'.2.2.1 q'.2.2.2.2 σ with z | z | ⟨d', p', c', -, -, -, -, -, -, z⟩ <;> rw [z] <;> exact Nat.le_of_ble_eq_true rfl
                · split
                  · rcases zcM_cs q'.1 q'.2.2.1 q'.2.2.2.2 σ with z | ⟨d', p', c', -, -, -, -, -, -, z⟩ <;> rw [z] <;> exact Nat.le_of_ble_eq_true rfl
                  · split
                    · rcases zcI_cs q'.1 q'.2.2.1 q'.2.2.2.2 σ with z | z | z | ⟨d', p', c', -, -, -, -, -, -, -, z⟩ <;> rw [z] <;> exact Nat.le_of_ble_eq_true rfl
                    · split
                      · rcases zcR_cs q'.1 q'.2.2.1 σ with z | ⟨d', p', -, -, -, -, z⟩ <;> rw [z] <;> exact Nat.le_of_ble_eq_true rfl
                      · exact Nat.le_of_ble_eq_true rfl
              omega
            have k9 := yy (nI_inj (b := 0) hb (by decide) g)
            conv => whnf
            refine ⟨fun z => absurd z (by decide), fun _ => ?_⟩
            conv => whnf
            refine hF _ _ _ _ _ _ _ _ ?_ k9
            repeat (first | exact zf_0 | refine zf_s ?_ | refine zf_n ?_)
    conv => whnf
    refine ⟨_, H5.ob, Nat.le_of_ble_eq_true rfl, ⟨rfl, rfl⟩, ?_⟩
    conv => whnf
    have H6 : zPr (zupd h5 r (zRO r (upd c5 16 0))) r (upd c5 16 0) (A.1, Sv, A.2.2) (false, 0) := ⟨H5.fld (upd_n (by decide)) (upd_n (by decide)), upd_s, (upd_n (by decide)).trans c517⟩
    exact loop (A.2.2.length + 1) 0 _ _ A.1 0 (by omega) W.1 H6 ((upd_n (by decide)).trans c55) (o15.tr (zOff.up (Nat.le_refl _) (by omega))) (Or.inr ⟨hwt, rfl⟩)

