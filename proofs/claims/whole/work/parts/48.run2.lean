/-! The whole program: running a text, as a whole -/
/-- how many commands are executed, and the state after them -/
noncomputable def zet : List Int32 → zq → zS → Nat → Nat × zS
  | [], q, σ, n => if (zxc q σ).1 = 0 then (n + 1, (zxc q σ).2.1) else (n, σ)
  | c :: T, q, σ, n => if c = 59 then (if (zxc q σ).1 = 0 then zet T (ztk q c).2 (zxc q σ).2.1 (n + 1) else (n, σ)) else zet T (ztk q c).2 σ n
theorem zet_wf : ∀ (T : List Int32) (q : zq) (σ : zS) (n : Nat), zwf σ → zwf (zet T q σ n).2 := by
  intro T
  induction T with
  | nil =>
    intro q σ n W
    show zwf (if (zxc q σ).1 = 0 then (n + 1, (zxc q σ).2.1) else (n, σ)).2
    split
    · exact zxc_wf W
    · exact W
  | cons c T ih =>
    intro q σ n W
    show zwf (if c = 59 then (if (zxc q σ).1 = 0 then zet T (ztk q c).2 (zxc q σ).2.1 (n + 1) else (n, σ)) else zet T (ztk q c).2 σ n).2
    split
    · split
      · exact ih _ _ _ (zxc_wf W)
      · exact W
    · exact ih _ _ _ W
set_option maxRecDepth 100000 in
theorem S_X6_executeText {C : zK} (hC : zCld 215 zTT C) {h : zH} {n : Nat} {K : zQ} {A : zA} (H : zX h A) (H1 : ∀ h', zX h' ((zet A.2.2 zq0 A.1 0).2, A.2.1, A.2.2) → zOff 0 96 h h' → K 0 (some (.int (nI (zet A.2.2 zq0 A.1 0).1))) h' n) : C 114 [.ref 0] h n K := by
  have hob := H.1
  obtain ⟨q0, hT⟩ := H.tx
  have ht := hT.1
  have hl : A.2.2.length ≤ 60 := H.w.2.2.2.1
  refine zd_X6_executeText hC rfl fun P hgo hF => ?_
  have loop : ∀ e i (h2 : zH) (σ : zS) (q : zq) (cnt : Nat) (o : Option Value), i + e = A.2.2.length + 1 → zX h2 (σ, A.2.1, A.2.2) → zTx h2 94 A.2.2 q → zOff 0 96 h h2 → ((i ≤ A.2.2.length ∧ zet (A.2.2.drop i) q σ cnt = zet A.2.2 zq0 A.1 0) ∨ (i = A.2.2.length + 1 ∧ (cnt, σ) = zet A.2.2 zq0 A.1 0)) → P 11 [some (.ref 0), some (.int (nI cnt)), some (.int (nI i)), o] [] h2 n 0 0 := by
    intro e
    induction e with
    | zero =>
      intro i h2 σ q cnt o hi H2 T2 o2 hv
      have ob2 := H2.1
      have t2 := T2.1
      refine hgo [11] 40 _ _ _ _ _ _ _ ?_
      conv => whnf
      refine ⟨_, ob2, _, rfl, ?_⟩
      conv => whnf
      refine ⟨_, t2, _, rfl, ?_⟩
      conv => whnf
      refine ⟨fun _ => ?_, fun z => absurd (nI_lt (show A.2.2.length < i by omega) (show i < 2 ^ 31 by omega)) z⟩
      conv => whnf
      rcases hv with ⟨z, -⟩ | ⟨-, z⟩
      · omega
      · rw [← z] at H1
        exact H1 h2 H2 o2
    | succ e ih =>
      intro i h2 σ q cnt o hi H2 T2 o2 hv
      have ob2 := H2.1
      have t2 := T2.1
      have hv2 : zet (A.2.2.drop i) q σ cnt = zet A.2.2 zq0 A.1 0 := by
        rcases hv with ⟨-, z⟩ | ⟨z, -⟩
        · exact z
        · omega
      have at60 : ∀ (h3 : zH) (σ3 : zS) (cnt3 : Nat) (c : Int32), zX h3 (σ3, A.2.1, A.2.2) → zTx h3 94 A.2.2 q → zOff 0 96 h h3 → ((i + 1 ≤ A.2.2.length ∧ zet (A.2.2.drop (i + 1)) (ztk q c).2 σ3 cnt3 = zet A.2.2 zq0 A.1 0) ∨ (i + 1 = A.2.2.length + 1 ∧ (cnt3, σ3) = zet A.2.2 zq0 A.1 0)) → P 60 [some (.ref 0), some (.int (nI cnt3)), some (.int (nI i)), some (.int c)] [] h3 n 0 0 := by
        intro h3 σ3 cnt3 c H3 T3 o3 hv3
        have ob3 := H3.1
        have t3 := T3.1
        refine hgo [11] 40 _ _ _ _ _ _ _ ?_
        conv => whnf
        refine ⟨_, ob3, _, rfl, ?_⟩
        conv => whnf
        refine ⟨_, t3, ?_⟩
        refine S_X1_take hC T3 (fun h4 T4 o4 => ?_)
        have H4 := H3.txt T4 (o4.wd (by omega) (by omega)) H3.w.2.2.2
        have k9 := ih (i + 1) h4 σ3 (ztk q c).2 cnt3 (some (.int c)) (by omega) H4 T4 (o3.tr (o4.wd (by omega) (by omega))) hv3
        rw [← zinc (j := i)] at k9
        conv => whnf
        exact k9
      have at48 : ∀ (c : Int32), ((zxc q σ).1 = 0 → (i + 1 ≤ A.2.2.length ∧ zet (A.2.2.drop (i + 1)) (ztk q c).2 (zxc q σ).2.1 (cnt + 1) = zet A.2.2 zq0 A.1 0) ∨ (i + 1 = A.2.2.length + 1 ∧ (cnt + 1, (zxc q σ).2.1) = zet A.2.2 zq0 A.1 0)) → (¬ (zxc q σ).1 = 0 → (cnt, σ) = zet A.2.2 zq0 A.1 0) → P 48 [some (.ref 0), some (.int (nI cnt)), some (.int (nI i)), some (.int c)] [] h2 n 0 0 := by
        intro c e1 e0
        refine hgo [11, 60] 40 _ _ _ _ _ _ _ ?_
        conv => whnf
        refine ⟨_, ob2, ?_⟩
        refine S_X6_executeCommand hC H2 T2 (fun z h3 H3 T3 o3 => ?_) (fun z => ?_)
        · have k9 := at60 h3 (zxc q σ).2.1 (cnt + 1) c H3 T3 (o2.tr (o3.wd (by omega) (by omega))) (e1 z)
          rw [← zinc (j := cnt)] at k9
          conv => whnf
          refine ⟨fun _ => ?_, fun y => absurd y (by decide)⟩
          conv => whnf
          exact k9
        · have k9 := e0 z
          rw [← k9] at H1
          conv => whnf
          refine ⟨fun y => absurd rfl y, fun _ => ?_⟩
          conv => whnf
          exact H1 h2 H2 o2
      refine hgo [11, 48, 60] 40 _ _ _ _ _ _ _ ?_
      conv => whnf
      refine ⟨_, ob2, _, rfl, ?_⟩
      conv => whnf
      refine ⟨_, t2, _, rfl, ?_⟩
      conv => whnf
      refine ⟨fun z => absurd z (nI_nlt (by omega) (by omega)), fun _ => ?_⟩
      conv => whnf
      refine ⟨_, ob2, _, rfl, ?_⟩
      conv => whnf
      refine ⟨_, t2, ?_⟩
      by_cases hi9 : i < A.2.2.length
      · obtain ⟨c, hc⟩ : ∃ c, A.2.2[i]? = some c := ⟨A.2.2[i], List.getElem?_eq_getElem hi9⟩
        have hd : A.2.2.drop i = c :: A.2.2.drop (i + 1) := by
          rw [List.drop_eq_getElem_cons hi9, (List.getElem?_eq_some_iff.mp hc).2]
        rw [hd] at hv2
        have hv3 : (if c = 59 then (if (zxc q σ).1 = 0 then zet (A.2.2.drop (i + 1)) (ztk q c).2 (zxc q σ).2.1 (cnt + 1) else (cnt, σ)) else zet (A.2.2.drop (i + 1)) (ztk q c).2 σ cnt) = zet A.2.2 zq0 A.1 0 := hv2
        refine S_X1_codeAt hC T2 (fun j c2 hc2 ej => ?_) (fun hno => absurd rfl (hno i hi9))
        have ej2 : i = j := nI_inj (by omega) (by have := (List.getElem?_eq_some_iff.mp hc2).1; omega) ej
        rw [← ej2] at hc2
        have ec : c = c2 := Option.some.inj (hc.symm.trans hc2)
        rw [← ec]
        conv => whnf
        refine ⟨_, ob2, _, rfl, ?_⟩
        conv => whnf
        refine ⟨_, t2, _, rfl, ?_⟩
        conv => whnf
        refine ⟨fun z => absurd (nI_inj (show i < 2 ^ 31 by omega) (show A.2.2.length < 2 ^ 31 by omega) z) (by omega), fun _ => ?_⟩
        conv => whnf
        refine ⟨fun z => ?_, fun z => ?_⟩
        · have z2 : ¬ c = 59 := z
          rw [if_neg z2] at hv3
          exact at60 h2 σ cnt c H2 T2 o2 (Or.inl ⟨hi9, hv3⟩)
        · have z2 : c = 59 := z
          rw [if_pos z2] at hv3
          refine at48 c (fun y => ?_) (fun y => ?_)
          · rw [if_pos y] at hv3
            exact Or.inl ⟨hi9, hv3⟩
          · rw [if_neg y] at hv3
            exact hv3
      · have hi8 : i = A.2.2.length := by omega
        rw [List.drop_of_length_le (by omega)] at hv2
        have hv3 : (if (zxc q σ).1 = 0 then (cnt + 1, (zxc q σ).2.1) else (cnt, σ)) = zet A.2.2 zq0 A.1 0 := hv2
        refine S_X1_codeAt hC T2 (fun j c2 hc2 ej => ?_) (fun hno => ?_)
        · have := (List.getElem?_eq_some_iff.mp hc2).1
          have ej2 : i = j := nI_inj (by omega) (by omega) ej
          have e8 : j < A.2.2.length := this
          omega
        · conv => whnf
          refine ⟨_, ob2, _, rfl, ?_⟩
          conv => whnf
          refine ⟨_, t2, _, rfl, ?_⟩
          conv => whnf
          refine ⟨fun _ => ?_, fun z => absurd (congrArg nI hi8) z⟩
          refine at48 (-1) (fun y => ?_) (fun y => ?_)
          · rw [if_pos y] at hv3
            exact Or.inr ⟨by omega, hv3⟩
          · rw [if_neg y] at hv3
            exact hv3
  refine hgo [11] 40 _ _ _ _ _ _ _ ?_
  conv => whnf
  refine ⟨_, hob, _, rfl, ?_⟩
  conv => whnf
  refine ⟨_, ht, ?_⟩
  refine S_X1_beginReading hC hT (fun h2 T2 o2 => ?_)
  have H2 := H.txt T2 (o2.wd (by omega) (by omega)) H.w.2.2.2
  conv => whnf
  exact loop (A.2.2.length + 1) 0 h2 A.1 zq0 0 _ (by omega) H2 T2 (o2.wd (by omega) (by omega)) (Or.inl ⟨Nat.zero_le _, rfl⟩)
noncomputable def zoR (A : zA) : Nat × zA × Int32 := by
  classical
  exact if (zfe zq0 A.2.2).1 = A.2.2.length ∧ zwhole (zfe zq0 A.2.2).2 then (0, ((zet A.2.2 zq0 A.1 0).2, (A.1 :: A.2.1).take 6, []), nI (zet A.2.2 zq0 A.1 0).1) else (1, A, 0)
set_option maxRecDepth 100000 in
theorem S_X6_run {C : zK} (hC : zCld 215 zTT C) {h : zH} {n : Nat} {K : zQ} {A : zA} (H : zX h A) (H1 : ∀ h', zX h' (zoR A).2.1 → zOff 0 96 h h' → zRet [0] (zoR A).1 (.int (zoR A).2.2) K h' n) : C 101 [.ref 0] h n K := by
  have hob := H.1
  obtain ⟨q0, hT⟩ := H.tx
  have ht := hT.1
  refine zd_X6_run hC rfl fun P hgo hF => ?_
  unfold zoR at H1
  refine hgo [] 40 _ _ _ _ _ _ _ ?_
  conv => whnf
  refine ⟨_, hob, _, rfl, ?_⟩
  conv => whnf
  refine ⟨_, ht, ?_⟩
  refine S_X1_isComplete hC hT (fun h2 q2 T2 o2 y1 y2 => ?_) (fun h2 q2 T2 o2 y => ?_)
  · rw [if_pos ⟨y1, y2⟩] at H1
    have H2 := H.txt T2 (o2.wd (by omega) (by omega)) H.w.2.2.2
    have ob2 := H2.1
    obtain ⟨nx2, hh2⟩ := H2.2.2.1
    have hr2 := hh2.1
    conv => whnf
    refine ⟨fun _ => ?_, fun y => absurd y (by decide)⟩
    conv => whnf
    refine ⟨_, ob2, _, rfl, ?_⟩
    conv => whnf
    refine ⟨_, ob2, _, rfl, ?_⟩
    conv => whnf
    refine ⟨_, hr2, ?_⟩
    refine S_xkeep hC H2 (fun h3 H3 o3 => ?_)
    have ob3 := H3.1
    conv => whnf
    refine ⟨_, ob3, ?_⟩
    refine S_X6_executeText hC H3 (fun h4 H4 o4 => ?_)
    have ob4 := H4.1
    obtain ⟨q4, T4⟩ := H4.tx
    have t4 := T4.1
    conv => whnf
    refine ⟨_, ob4, _, rfl, ?_⟩
    conv => whnf
    refine ⟨_, t4, ?_⟩
    refine S_X1_forget hC T4 (fun h5 T5 o5 => ?_)
    conv => whnf
    exact H1 h5 (H4.txt T5 (o5.wd (by omega) (by omega)) ⟨Nat.zero_le _, fun c hc => nomatch hc⟩) ((((o2.wd (by omega) (by omega)).tr o3).tr o4).tr (o5.wd (by omega) (by omega)))
  · rw [if_neg y] at H1
    have H2 := H.txt T2 (o2.wd (by omega) (by omega)) H.w.2.2.2
    conv => whnf
    refine ⟨fun z => absurd rfl z, fun _ => ?_⟩
    conv => whnf
    exact ⟨rfl, H1 h2 H2 (o2.wd (by omega) (by omega))⟩

