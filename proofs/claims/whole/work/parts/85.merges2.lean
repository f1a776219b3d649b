/-! The reference: merges, and the questions about the merged text -/
theorem zYc.mg {h h' : zH} {r : Nat} {c c' : Nat → Int32} {A : zA} {M Q : zB} {pl vl : Nat → Int32} (H : zYc h r c A) (J : zJ h' r c' A.1 Q pl vl) (HM : zYm h' r c' M) (e2 : c' 2 = c 2) (e4 : c' 4 = c 4) (o : ∀ a, a ≠ r → (a < r + 5 ∨ r + 11 ≤ a) → h' a = h a) : zYc h' r c' A := by
  obtain ⟨-, -, -, ⟨-, -, -, -, -, -, -, ⟨f8, s8⟩⟩, -, -⟩ := id H
  obtain ⟨kf, k1, -⟩ := J.2.1 0 (by decide)
  obtain ⟨-, -, -, af, kf2, q4, q5, -⟩ := J.2.2.1
  obtain ⟨-, -, -, -, -, mf, nf, m6, m7, -⟩ := HM
  exact H.sc J.ob e2 e4 (fun a h1 h2 => o a (by omega) (by omega)) ⟨⟨_, k1⟩, ⟨_, m6⟩, ⟨_, m7⟩, ⟨_, q4⟩, ⟨_, q5⟩, ⟨_, J.pp⟩, ⟨_, J.vv⟩, ⟨_, (o _ (by omega) (by omega)).trans s8⟩⟩
set_option maxRecDepth 100000 in
theorem S_ymergesK {C : zK} (hC : zCld 215 zTT C) {h : zH} {n : Nat} {K : zQ} {r : Nat} {c : Nat → Int32} {A : zA} (H : zYc h r c A) (W : zwf A.1) (H1 : ∀ h' c', zYc h' r c' A → zYm h' r c' (zmer A.1) → zYq h' r c' (zQ0 A.1) → (∀ j, j ≠ 9 → j ≠ 12 → c' j = c j) → zOff r (r + 12) h h' → (∀ d, d < 2 → zYk1 h' r A.1 d) → K 0 none h' n) : C 164 [.ref r] h n K := by
  have hnb := H.1.bs
  have hcl : ∀ i, zcnt A.1 i < 1000 := fun i => zcnt_lt (fun d v hv => (H.1.lt d v hv).2)
  refine zd_X7_merges hC rfl fun P hgo hF => ?_
  refine hgo [22] 60 _ _ _ _ _ _ _ ?_
  conv => whnf
  refine ⟨_, H.ob, ?_⟩
  refine S_ykeeps hC H (d := 0) (by decide) (fun h1 G1 k1 o1 _ => ?_)
  conv => whnf
  refine ⟨_, G1.ob, ?_⟩
  refine S_ykeeps hC G1 (d := 1) (by decide) (fun h2 G2 k2 o2 kp => ?_)
  have k3 := kp 0 rfl k1 rfl
  conv => whnf
  refine ⟨_, G2.ob, Nat.le_of_ble_eq_true rfl, ⟨rfl, rfl⟩, ?_⟩
  conv => whnf
  have G3 : zYc (zupd h2 r (zRO r (upd c 9 0))) r (upd c 9 0) A := G2.fld (upd_n (by decide)) (upd_n (by decide))
  have e3 : zYk1 (zupd h2 r (zRO r (upd c 9 0))) r A.1 0 := k3.eq (zupd_n (by omega))
  have e4 : zYk1 (zupd h2 r (zRO r (upd c 9 0))) r A.1 1 := k2.eq (zupd_n (by omega))
  have o3 : zOff r (r + 12) h (zupd h2 r (zRO r (upd c 9 0))) := ((o1.wd (by omega) (by omega)).tr (o2.wd (by omega) (by omega))).tr (zOff.up (Nat.le_refl _) (by omega))
  refine ⟨_, G3.ob, Nat.le_of_ble_eq_true rfl, ⟨rfl, rfl⟩, ?_⟩
  conv => whnf
  have G5 : zYc (zupd (zupd h2 r (zRO r (upd c 9 0))) r (zRO r (upd (upd c 9 0) 12 0))) r (upd (upd c 9 0) 12 0) A := G3.fld (upd_n (by decide)) (upd_n (by decide))
  have e5 : zYk1 (zupd (zupd h2 r (zRO r (upd c 9 0))) r (zRO r (upd (upd c 9 0) 12 0))) r A.1 0 := e3.eq (zupd_n (by omega))
  have e6 : zYk1 (zupd (zupd h2 r (zRO r (upd c 9 0))) r (zRO r (upd (upd c 9 0) 12 0))) r A.1 1 := e4.eq (zupd_n (by omega))
  have o5 : zOff r (r + 12) h (zupd (zupd h2 r (zRO r (upd c 9 0))) r (zRO r (upd (upd c 9 0) 12 0))) := o3.tr (zOff.up (Nat.le_refl _) (by omega))
  have c9 : upd (upd c 9 0) 12 0 9 = nI 0 := (upd_n (by decide)).trans upd_s
  have c12 : upd (upd c 9 0) 12 0 12 = nI 0 := upd_s
  have cj : ∀ j, j ≠ 9 → j ≠ 12 → upd (upd c 9 0) 12 0 j = c j := fun j z1 z2 => (upd_n z2).trans (upd_n z1)
  refine (show ∀ (c5 : Nat → Int32) (h5 : zH), zYc h5 r c5 A → zYk1 h5 r A.1 0 → zYk1 h5 r A.1 1 → zOff r (r + 12) h h5 → c5 9 = nI 0 → c5 12 = nI 0 → (∀ j, j ≠ 9 → j ≠ 12 → c5 j = c j) → P 22 [some (.ref r), some (.int 0)] [] h5 n 0 0 from ?_) _ _ G5 e5 e6 o5 c9 c12 cj
  clear G5 e5 e6 o5 c9 c12 cj
  intro c5 h5 G5 e5 e6 o5 c9 c12 cj
  obtain ⟨-, -, -, ⟨-, ⟨mf, s2⟩, ⟨nf, s3⟩, ⟨af, s4⟩, ⟨kf, s5⟩, ⟨pl, s6⟩, ⟨vl, s7⟩, -⟩, -, -⟩ := id G5
  have hk : ∀ d, d < 2 → zYk1 h5 r A.1 d := fun d hd => by
    rcases (by omega : d = 0 ∨ d = 1) with e | e
    · rw [e]; exact e5
    · rw [e]; exact e6
  have loop : ∀ e i (h6 : zH) (c6 pl6 vl6 : Nat → Int32), i + e = (zba A.1).length → zJ h6 r c6 A.1 (zcfl A.1 i) pl6 vl6 → zYm h6 r c6 (zfr A.1 i) → (∀ j, j < i → pl6 j = zpR (zplc A.1 j) ∧ (zplc A.1 j ≠ 3 → vl6 j = nI (zcnt A.1 j))) → (∀ j, j ≠ 9 → j ≠ 12 → c6 j = c5 j) → (∀ a, a ≠ r → (a < r + 5 ∨ r + 11 ≤ a) → h6 a = h5 a) → P 22 [some (.ref r), some (.int (nI i))] [] h6 n 0 0 := by
    intro e
    induction e with
    | zero =>
      intro i h6 c6 pl6 vl6 hi J HM hpv hc ho
      have hi2 : i = (zba A.1).length := by omega
      rw [hi2] at J HM hpv ⊢
      obtain ⟨b1, f, b2, b3⟩ := id J.1
      refine hgo [22] 60 _ _ _ _ _ _ _ ?_
      conv => whnf
      refine ⟨_, b1, _, rfl, ?_⟩
      conv => whnf
      refine ⟨_, _, b2, vp_in_nI (n := 0) (by omega) (by decide), ?_⟩
      rw [show (0 : Int32).toNatClampNeg = 0 by decide, b3.1]
      conv => whnf
      refine ⟨fun _ => ?_, fun q => absurd (nI_le (Nat.le_refl _) (by omega)) q⟩
      conv => whnf
      refine ⟨_, b1, ?_⟩
      refine S_X7_laysOf hC J W (d := 0) (by decide) HM hpv (zfr_mo hnb) (fun h7 c7 J7 M7 g3 g4 => ?_)
      conv => whnf
      refine ⟨_, J7.ob, ?_⟩
      have hmo := (zMo.steps W (d := 0) (by decide) (e := (zdr A.1 0).length) (zfr_mo hnb)).next
      refine S_X7_laysOf hC J7 W (d := 1) (by decide) M7 hpv hmo (fun h8 c8 J8 M8 g5 g6 => ?_)
      conv => whnf
      have cc : ∀ j, j ≠ 9 → j ≠ 12 → c8 j = c5 j := fun j z1 z2 => (g5 j z1).trans ((g3 j z1).trans (hc j z1 z2))
      have oo : ∀ a, a ≠ r → (a < r + 5 ∨ r + 11 ≤ a) → h8 a = h5 a := fun a z1 z2 => (g6 a z1 (by omega) (by omega)).trans ((g4 a z1 (by omega) (by omega)).trans (ho a z1 z2))
      exact H1 h8 c8 (G5.mg J8 M8 (cc 2 (by decide) (by decide)) (cc 4 (by decide) (by decide)) oo) M8 J8.2.2.1 (fun j z1 z2 => (cc j z1 z2).trans (cj j z1 z2)) (o5.tr (fun a ha => oo a (by omega) (by omega))) J8.2.1
    | succ e ih =>
      intro i h6 c6 pl6 vl6 hi J HM hpv hc ho
      obtain ⟨b1, f, b2, b3⟩ := id J.1
      have hq := zcfl_le (σ := A.1) i
      have hfl := zfr_le (σ := A.1) i
      refine hgo [22, 62] 60 _ _ _ _ _ _ _ ?_
      conv => whnf
      refine ⟨_, b1, _, rfl, ?_⟩
      conv => whnf
      refine ⟨_, _, b2, vp_in_nI (n := 0) (by omega) (by decide), ?_⟩
      rw [show (0 : Int32).toNatClampNeg = 0 by decide, b3.1]
      conv => whnf
      refine ⟨fun q => absurd q (nI_ge (show i < (zba A.1).length by omega) (by omega)), fun _ => ?_⟩
      conv => whnf
      refine ⟨_, b1, ?_⟩
      refine S_X7_judges hC J W (show i < (zba A.1).length by omega) (by omega) (fun h7 c7 pl7 vl7 J7 g2 g3 g4 g5 g6 => ?_)
      have HM7 : zYm h7 r c7 (zfr A.1 i) := HM.eq J7.ob (g2 9 (by decide)) (g3 _ (by omega) (by omega) (by omega) (by omega) (by omega)) (g3 _ (by omega) (by omega) (by omega) (by omega) (by omega))
      have hpv7 : ∀ j, j < i + 1 → pl7 j = zpR (zplc A.1 j) ∧ (zplc A.1 j ≠ 3 → vl7 j = nI (zcnt A.1 j)) := fun j hj => by
        by_cases c1 : j = i
        · rw [c1]; exact ⟨g4, g6⟩
        · rw [(g5 j c1).1, (g5 j c1).2]
          exact hpv j (by omega)
      have hc7 : ∀ j, j ≠ 9 → j ≠ 12 → c7 j = c5 j := fun j z1 z2 => (g2 j z2).trans (hc j z1 z2)
      have ho7 : ∀ a, a ≠ r → (a < r + 5 ∨ r + 11 ≤ a) → h7 a = h5 a := fun a z1 z2 => (g3 a z1 (by omega) (by omega) (by omega) (by omega)).trans (ho a z1 z2)
      rw [← zcfl_s] at J7
      have nx : ∀ h8 c8, zJ h8 r c8 A.1 (zcfl A.1 (i + 1)) pl7 vl7 → zYm h8 r c8 (zfr A.1 (i + 1)) → (∀ j, j ≠ 9 → j ≠ 12 → c8 j = c5 j) → (∀ a, a ≠ r → (a < r + 5 ∨ r + 11 ≤ a) → h8 a = h5 a) → P 62 [some (.ref r), some (.int (nI i))] [] h8 n 0 0 := by
        intro h8 c8 J8 HM8 hc8 ho8
        have k9 := ih (i + 1) h8 c8 pl7 vl7 (by omega) J8 HM8 hpv7 hc8 ho8
        rw [← zinc (j := i)] at k9
        refine hgo [22] 60 _ _ _ _ _ _ _ ?_
        conv => whnf
        exact k9
      have hfs := zfr_s (σ := A.1) (j := i)
      have d1 := J7.ob
      have p7 := J7.pp
      have v7 := J7.vv
      conv => whnf
      refine ⟨_, d1, _, rfl, ?_⟩
      conv => whnf
      refine ⟨_, _, p7, vp_in_nI (show i < 10 by omega) (by decide), ?_⟩
      rw [nI_clamp (show i < 2 ^ 31 by omega), g4]
      conv => whnf
      refine ⟨fun q => ?_, fun q => ?_⟩
      · have hne : ¬ zplc A.1 i = 2 := fun z => q ((zpR_2 zplc_le (d := 2) (by omega)).mpr z)
        rw [if_neg hne, List.append_nil] at hfs
        have k9 := nx h7 c7 J7 (by rw [hfs]; exact HM7) hc7 ho7
        conv => whnf
        exact k9
      · have heq : zplc A.1 i = 2 := (zpR_2 zplc_le (d := 2) (by omega)).mp q
        rw [if_pos heq] at hfs
        have e9 : c7 9 = nI (zfr A.1 i).length := HM7.2.1
        conv => whnf
        refine ⟨_, d1, _, rfl, ?_⟩
        conv => whnf
        rw [e9]
        refine ⟨_, d1, _, rfl, ?_⟩
        conv => whnf
        refine ⟨_, _, v7, vp_in_nI (show i < 10 by omega) (by decide), ?_⟩
        rw [nI_clamp (show i < 2 ^ 31 by omega), g6 (by omega)]
        conv => whnf
        refine ⟨_, d1, ?_⟩
        refine S_X7_lays hC HM7 (Nat.le_refl _) (by omega) ⟨by omega, hcl i⟩ (fun v hv => by have := (zfr_in hv).1; omega) (fun h8 c8 a1 a2 a3 => ?_)
        rw [List.insertIdx_length_self, ← hfs] at a1
        have k9 := nx h8 c8 (J7.ly a1.ob (a2 12 (by decide)) a3) a1 (fun j z1 z2 => (a2 j z1).trans (hc7 j z1 z2)) (fun a z1 z2 => (a3 a z1 (by omega) (by omega)).trans (ho7 a z1 z2))
        conv => whnf
        exact k9
  exact loop (zba A.1).length 0 h5 c5 pl vl (by omega) ⟨G5.1, hk, ⟨c12, Nat.zero_le _, (fun v hv => nomatch hv), af, kf, s4, s5, (fun j v hv => nomatch hv)⟩, s6, s7⟩ ⟨G5.ob, c9, Nat.zero_le _, (fun v hv => nomatch hv), List.nodup_nil, mf, nf, s2, s3, (fun j v hv => nomatch hv)⟩ (fun j hj => absurd hj (Nat.not_lt_zero _)) (fun _ _ _ => rfl) (fun _ _ _ => rfl)
set_option maxRecDepth 100000 in
theorem S_ymerges {C : zK} (hC : zCld 215 zTT C) {h : zH} {n : Nat} {K : zQ} {r : Nat} {c : Nat → Int32} {A : zA} (H : zYc h r c A) (W : zwf A.1) (H1 : ∀ h' c', zYc h' r c' A → zYm h' r c' (zmer A.1) → zYq h' r c' (zQ0 A.1) → (∀ j, j ≠ 9 → j ≠ 12 → c' j = c j) → zOff r (r + 12) h h' → K 0 none h' n) : C 164 [.ref r] h n K := S_ymergesK hC H W (fun h' c' a1 a2 a3 a4 a5 _ => H1 h' c' a1 a2 a3 a4 a5)

