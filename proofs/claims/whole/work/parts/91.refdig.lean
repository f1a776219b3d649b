/-! The reference: digest -/
theorem zdg_0 {v : Int32} : (251999 : Int64) + v.toInt64 = zmx 8129 v := by
  unfold zmx
  rw [show (31 : Int64) * 8129 = 251999 by decide]
set_option maxRecDepth 100000 in
theorem S_X7_digest {C : zK} (hC : zCld 215 zTT C) {h : zH} {n : Nat} {K : zQ} {r th : Nat} {A : zA} (H : zY h r A th) (W : zwA A) (H1 : ∀ h', zY h' r A 0 → zOff r (r + 12) h h' → K 0 (some (.long (zdg A.1))) h' n) : C 192 [.ref r] h n K := by
  obtain ⟨c, H, -⟩ := H
  refine zd_X7_digest hC rfl fun P hgo hF => ?_
  refine hgo [74] 100 _ _ _ _ _ _ _ ?_
  conv => whnf
  refine ⟨_, H.ob, Nat.le_of_ble_eq_true rfl, ⟨rfl, rfl⟩, ?_⟩
  conv => whnf
  have H2 : zYc (zupd h r (zRO r (upd c 5 0))) r (upd c 5 0) A := H.fld (upd_n (by decide)) (upd_n (by decide))
  have o2 : zOff r (r + 12) h (zupd h r (zRO r (upd c 5 0))) := zOff.up (Nat.le_refl _) (by omega)
  have e2 : upd c 5 0 5 = nI 0 := upd_s
  refine ⟨_, H2.ob, ?_⟩
  refine S_ymergesK hC H2 W.1 (fun h3 c3 H3 M3 Q3 g3 o3 hkp => ?_)
  have G : K 0 (some (.long (zdg A.1))) h3 n := H1 h3 ⟨c3, H3, (g3 5 (by decide) (by decide)).trans e2⟩ (o2.tr o3)
  have hml : (zmer A.1).length ≤ 30 := M3.2.2.1
  have hql : (zQ0 A.1).length ≤ 20 := Q3.2.1
  have hnb := H3.1.bs
  obtain ⟨-, -, -, -, -, mf, nf, m6, m7, m8⟩ := id M3
  obtain ⟨-, -, -, af, kf, q6, q7, q8⟩ := id Q3
  have b1 := H3.ob
  obtain ⟨-, f, b2, b3⟩ := id H3.1
  have p281 : P 281 [some (.ref r), some (.long (zdg A.1)), none, none, none] [] h3 n 0 0 := by
    refine hgo [] 20 _ _ _ _ _ _ _ ?_
    conv => whnf
    exact G
  have l239 : ∀ e k (x : Int64), k + e = (zQ0 A.1).length → zmB x ((zQ0 A.1).drop k) = zdg A.1 → P 239 [some (.ref r), some (.long x), none, some (.int (nI k)), none] [] h3 n 0 0 := by
    intro e
    induction e with
    | zero =>
      intro k x hk hx
      rw [List.drop_of_length_le (by omega)] at hx
      have hx' : x = zdg A.1 := hx
      rw [hx']
      refine hgo [239, 281] 60 _ _ _ _ _ _ _ ?_
      conv => whnf
      refine ⟨_, b1, _, rfl, ?_⟩
      conv => whnf
      rw [Q3.1]
      refine ⟨fun _ => ?_, fun q => absurd (nI_le (show (zQ0 A.1).length ≤ k by omega) (show k < 2 ^ 31 by omega)) q⟩
      conv => whnf
      refine hF _ _ _ _ _ _ _ _ ?_ p281
      repeat (first | exact zf_0 | refine zf_s ?_ | refine zf_n ?_)
    | succ e ih =>
      intro k x hk hx
      obtain ⟨v, hv⟩ : ∃ v, (zQ0 A.1)[k]? = some v := ⟨(zQ0 A.1)[k], List.getElem?_eq_getElem (by omega)⟩
      rw [zdrop hv] at hx
      have k9 := ih (k + 1) (zmx (zmx x (nI v.1)) (nI v.2)) (by omega) hx
      rw [← zinc (j := k)] at k9
      refine hgo [239, 281] 60 _ _ _ _ _ _ _ ?_
      conv => whnf
      refine ⟨_, b1, _, rfl, ?_⟩
      conv => whnf
      rw [Q3.1]
      refine ⟨fun q => absurd q (nI_ge (show k < (zQ0 A.1).length by omega) (by omega)), fun _ => ?_⟩
      conv => whnf
      refine ⟨_, b1, _, rfl, ?_⟩
      conv => whnf
      refine ⟨_, _, q6, vp_in_nI (show k < 20 by omega) (by decide), ?_⟩
      rw [nI_clamp (show k < 2 ^ 31 by omega), (q8 k v hv).1]
      conv => whnf
      refine ⟨_, b1, _, rfl, ?_⟩
      conv => whnf
      refine ⟨_, _, q7, vp_in_nI (show k < 20 by omega) (by decide), ?_⟩
      rw [nI_clamp (show k < 2 ^ 31 by omega), (q8 k v hv).2]
      conv => whnf
      exact k9
  have p237 : P 237 [some (.ref r), some (.long (zmB (zdgC A.1 (zba A.1).length) (zmer A.1))), none, none, none] [] h3 n 0 0 := by
    have k9 := l239 (zQ0 A.1).length 0 (zmB (zdgC A.1 (zba A.1).length) (zmer A.1)) (by omega) rfl
    refine hgo [239] 60 _ _ _ _ _ _ _ ?_
    conv => whnf
    exact k9
  have l195 : ∀ e k (x : Int64), k + e = (zmer A.1).length → zmB x ((zmer A.1).drop k) = zmB (zdgC A.1 (zba A.1).length) (zmer A.1) → P 195 [some (.ref r), some (.long x), none, some (.int (nI k)), none] [] h3 n 0 0 := by
    intro e
    induction e with
    | zero =>
      intro k x hk hx
      rw [List.drop_of_length_le (by omega)] at hx
      have hx' : x = zmB (zdgC A.1 (zba A.1).length) (zmer A.1) := hx
      rw [hx']
      refine hgo [195, 237] 60 _ _ _ _ _ _ _ ?_
      conv => whnf
      refine ⟨_, b1, _, rfl, ?_⟩
      conv => whnf
      rw [M3.2.1]
      refine ⟨fun _ => ?_, fun q => absurd (nI_le (show (zmer A.1).length ≤ k by omega) (show k < 2 ^ 31 by omega)) q⟩
      conv => whnf
      refine hF _ _ _ _ _ _ _ _ ?_ p237
      repeat (first | exact zf_0 | refine zf_s ?_ | refine zf_n ?_)
    | succ e ih =>
      intro k x hk hx
      obtain ⟨v, hv⟩ : ∃ v, (zmer A.1)[k]? = some v := ⟨(zmer A.1)[k], List.getElem?_eq_getElem (by omega)⟩
      rw [zdrop hv] at hx
      have k9 := ih (k + 1) (zmx (zmx x (nI v.1)) (nI v.2)) (by omega) hx
      rw [← zinc (j := k)] at k9
      refine hgo [195, 237] 60 _ _ _ _ _ _ _ ?_
      conv => whnf
      refine ⟨_, b1, _, rfl, ?_⟩
      conv => whnf
      rw [M3.2.1]
      refine ⟨fun q => absurd q (nI_ge (show k < (zmer A.1).length by omega) (by omega)), fun _ => ?_⟩
      conv => whnf
      refine ⟨_, b1, _, rfl, ?_⟩
      conv => whnf
      refine ⟨_, _, m6, vp_in_nI (show k < 30 by omega) (by decide), ?_⟩
      rw [nI_clamp (show k < 2 ^ 31 by omega), (m8 k v hv).1]
      conv => whnf
      refine ⟨_, b1, _, rfl, ?_⟩
      conv => whnf
      refine ⟨_, _, m7, vp_in_nI (show k < 30 by omega) (by decide), ?_⟩
      rw [nI_clamp (show k < 2 ^ 31 by omega), (m8 k v hv).2]
      conv => whnf
      exact k9
  have p193 : P 193 [some (.ref r), some (.long (zdgC A.1 (zba A.1).length)), none, none, none] [] h3 n 0 0 := by
    have k9 := l195 (zmer A.1).length 0 (zdgC A.1 (zba A.1).length) (by omega) rfl
    refine hgo [195] 60 _ _ _ _ _ _ _ ?_
    conv => whnf
    exact k9
  have l149 : ∀ e k, k + e = (zba A.1).length → P 149 [some (.ref r), some (.long (zdgC A.1 k)), none, some (.int (nI k)), none] [] h3 n 0 0 := by
    intro e
    induction e with
    | zero =>
      intro k hk
      rw [show k = (zba A.1).length by omega]
      refine hgo [149, 193] 60 _ _ _ _ _ _ _ ?_
      conv => whnf
      refine ⟨_, b1, _, rfl, ?_⟩
      conv => whnf
      refine ⟨_, _, b2, vp_in_nI (n := 0) (by omega) (by decide), ?_⟩
      rw [show (0 : Int32).toNatClampNeg = 0 by decide, b3.1]
      conv => whnf
      refine ⟨fun _ => ?_, fun q => absurd (nI_le (Nat.le_refl _) (by omega)) q⟩
      conv => whnf
      refine hF _ _ _ _ _ _ _ _ ?_ p193
      repeat (first | exact zf_0 | refine zf_s ?_ | refine zf_n ?_)
    | succ e ih =>
      intro k hk
      have k9 := ih (k + 1) (by omega)
      rw [← zinc (j := k)] at k9
      refine hgo [149, 193] 60 _ _ _ _ _ _ _ ?_
      conv => whnf
      refine ⟨_, b1, _, rfl, ?_⟩
      conv => whnf
      refine ⟨_, _, b2, vp_in_nI (n := 0) (by omega) (by decide), ?_⟩
      rw [show (0 : Int32).toNatClampNeg = 0 by decide, b3.1]
      conv => whnf
      refine ⟨fun q => absurd q (nI_ge (show k < (zba A.1).length by omega) (by omega)), fun _ => ?_⟩
      conv => whnf
      refine ⟨_, b1, ?_⟩
      refine S_X7_changeOf hC H3.1 (hkp 0 (by decide)) (d := 0) (by decide) (by omega) ?_
      conv => whnf
      refine ⟨_, b1, ?_⟩
      refine S_X7_changeOf hC H3.1 (hkp 1 (by decide)) (d := 1) (by decide) (by omega) ?_
      conv => whnf
      exact k9
  have p147 : P 147 [some (.ref r), some (.long (zdgB A.1)), none, none, none] [] h3 n 0 0 := by
    have k9 := l149 (zba A.1).length 0 (by omega)
    refine hgo [149] 60 _ _ _ _ _ _ _ ?_
    conv => whnf
    exact k9
  have l95 : ∀ (d : Nat) (Z : Int64), d < 2 → P 141 [some (.ref r), some (.long Z), none, some (.int (nI d)), none] [] h3 n 0 0 → ∀ e k (x : Int64), k + e = (zdr A.1 d).length → zmB x ((zdr A.1 d).drop k) = Z → P 95 [some (.ref r), some (.long x), none, some (.int (nI d)), some (.int (nI k))] [] h3 n 0 0 := by
    intro d Z hd hZ e
    have hln := H3.1.ln d
    induction e with
    | zero =>
      intro k x hk2 hx
      rw [List.drop_of_length_le (by omega)] at hx
      have hx' : x = Z := hx
      rw [hx']
      refine hgo [95, 141] 60 _ _ _ _ _ _ _ ?_
      conv => whnf
      refine ⟨_, b1, ?_⟩
      refine S_X7_sizeOf hC H3.1 hd ?_
      conv => whnf
      refine ⟨fun _ => ?_, fun q => absurd (nI_le (show (zdr A.1 d).length ≤ k by omega) (show k < 2 ^ 31 by omega)) q⟩
      conv => whnf
      refine hF _ _ _ _ _ _ _ _ ?_ hZ
      repeat (first | exact zf_0 | refine zf_s ?_ | refine zf_n ?_)
    | succ e ih =>
      intro k x hk2 hx
      obtain ⟨v, hv⟩ : ∃ v, (zdr A.1 d)[k]? = some v := ⟨(zdr A.1 d)[k], List.getElem?_eq_getElem (by omega)⟩
      rw [zdrop hv] at hx
      have k9 := ih (k + 1) (zmx (zmx x (nI v.1)) (nI v.2)) (by omega) hx
      rw [← zinc (j := k)] at k9
      refine hgo [95, 141] 60 _ _ _ _ _ _ _ ?_
      conv => whnf
      refine ⟨_, b1, ?_⟩
      refine S_X7_sizeOf hC H3.1 hd ?_
      conv => whnf
      refine ⟨fun q => absurd q (nI_ge (show k < (zdr A.1 d).length by omega) (by omega)), fun _ => ?_⟩
      conv => whnf
      refine ⟨_, b1, ?_⟩
      refine S_X7_numberAt hC H3.1 hd hv ?_
      conv => whnf
      refine ⟨_, b1, ?_⟩
      refine S_X7_insideAt hC H3.1 hd hv ?_
      conv => whnf
      exact k9
  have p74 : ∀ (d : Nat) (x Z : Int64), d < 2 → zmB (zmx x (nI (zdr A.1 d).length)) (zdr A.1 d) = Z → P 141 [some (.ref r), some (.long Z), none, some (.int (nI d)), none] [] h3 n 0 0 → P 74 [some (.ref r), some (.long x), none, some (.int (nI d)), none] [] h3 n 0 0 := by
    intro d x Z hd hZ k8
    have k9 := l95 d Z hd k8 (zdr A.1 d).length 0 (zmx x (nI (zdr A.1 d).length)) (by omega) hZ
    refine hgo [95] 60 _ _ _ _ _ _ _ ?_
    conv => whnf
    refine ⟨fun q => absurd q (nI_ge (show d < 2 by omega) (by decide)), fun _ => ?_⟩
    conv => whnf
    refine ⟨_, b1, ?_⟩
    refine S_X7_sizeOf hC H3.1 hd ?_
    conv => whnf
    exact k9
  have e141 : P 141 [some (.ref r), some (.long (zdgB A.1)), none, some (.int (nI 1)), none] [] h3 n 0 0 := by
    refine hgo [147] 60 _ _ _ _ _ _ _ ?_
    conv => whnf
    refine ⟨fun _ => ?_, fun q => absurd (by decide) q⟩
    conv => whnf
    refine hF _ _ _ _ _ _ _ _ ?_ p147
    repeat (first | exact zf_0 | refine zf_s ?_ | refine zf_n ?_)
  have d141 : P 141 [some (.ref r), some (.long (zmB (zmx (zdgA A.1) (nI (zd0 A.1).length)) (zd0 A.1))), none, some (.int (nI 0)), none] [] h3 n 0 0 := by
    have k9 := p74 1 _ (zdgB A.1) (by decide) (show zmB (zmx (zmB (zmx (zdgA A.1) (nI (zd0 A.1).length)) (zd0 A.1)) (nI (zdr A.1 1).length)) (zdr A.1 1) = zdgB A.1 from rfl) e141
    rw [← zinc (j := 0)] at k9
    refine hgo [74] 60 _ _ _ _ _ _ _ ?_
    conv => whnf
    exact k9
  have k9 := p74 0 (zdgA A.1) _ (by decide) (show zmB (zmx (zdgA A.1) (nI (zdr A.1 0).length)) (zdr A.1 0) = zmB (zmx (zdgA A.1) (nI (zd0 A.1).length)) (zd0 A.1) from rfl) d141
  conv => whnf
  refine ⟨_, b1, _, rfl, ?_⟩
  conv => whnf
  refine ⟨_, _, b2, vp_in_nI (n := 0) (by omega) (by decide), ?_⟩
  rw [show (0 : Int32).toNatClampNeg = 0 by decide, b3.1]
  conv => whnf
  rw [zdg_0]
  refine ⟨_, b1, _, rfl, ?_⟩
  conv => whnf
  rw [M3.2.1]
  refine ⟨_, b1, _, rfl, ?_⟩
  conv => whnf
  rw [Q3.1]
  refine ⟨_, b1, ?_⟩
  refine S_X7_openOnes hC H3.1 Q3 ?_
  conv => whnf
  refine ⟨_, b1, _, rfl, ?_⟩
  conv => whnf
  refine ⟨_, _, b2, vp_in_nI (n := 105) (by omega) (by decide), ?_⟩
  rw [show (105 : Int32).toNatClampNeg = 105 by decide, b3.2.2.2.2.2.2.1]
  conv => whnf
  exact k9

