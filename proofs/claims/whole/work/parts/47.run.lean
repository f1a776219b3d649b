/-! The whole program: running a text -/
def zxc (q : zq) (σ : zS) : Nat × zS × Int32 := if q.2.1 = 101 then zcE q.1 q.2.2.1 q.2.2.2.2 σ else if q.2.1 = 109 then zcM q.1 q.2.2.1 q.2.2.2.2 σ else if q.2.1 = 105 then zcI q.1 q.2.2.1 q.2.2.2.2 σ else if q.2.1 = 114 then zcR q.1 q.2.2.1 σ else (9, σ, 0)
theorem z19 {x : Nat} {σ : zS} {v : Int32} : ¬ (x + 1, σ, v).1 = 0 := Nat.succ_ne_zero x
theorem zxc_wf {q : zq} {σ : zS} (W : zwf σ) : zwf (zxc q σ).2.1 := by
  unfold zxc
  split
  · exact zcE_wf W
  · split
    · exact zcM_wf W
    · split
      · exact zcI_wf W
      · split
        · exact zcR_wf W
        · exact W
set_option maxRecDepth 100000 in
theorem S_X6_executeCommand {C : zK} (hC : zCld 215 zTT C) {h : zH} {n : Nat} {K : zQ} {A : zA} {q : zq} (H : zX h A) (hT : zTx h 94 A.2.2 q) (H1 : (zxc q A.1).1 = 0 → ∀ h', zX h' ((zxc q A.1).2.1, A.2.1, A.2.2) → zTx h' 94 A.2.2 q → zOff 1 12 h h' → K 0 (some (.int 1)) h' n) (H0 : ¬ (zxc q A.1).1 = 0 → K 0 (some (.int 0)) h n) : C 115 [.ref 0] h n K := by
  have hob := H.1
  have ht := hT.1
  have hst := H.st.1
  have W' := zxc_wf (q := q) H.w.1
  refine zd_X6_executeCommand hC rfl fun P hgo hF => ?_
  refine hgo [62, 100, 135, 171] 40 _ _ _ _ _ _ _ ?_
  conv => whnf
  refine ⟨_, hob, _, rfl, ?_⟩
  conv => whnf
  refine ⟨_, ht, _, rfl, ?_⟩
  conv => whnf
  refine ⟨_, hob, _, rfl, ?_⟩
  conv => whnf
  refine ⟨_, ht, _, rfl, ?_⟩
  conv => whnf
  refine ⟨_, hob, _, rfl, ?_⟩
  conv => whnf
  refine ⟨_, ht, _, rfl, ?_⟩
  conv => whnf
  refine ⟨_, hob, _, rfl, ?_⟩
  conv => whnf
  refine ⟨_, ht, _, rfl, ?_⟩
  conv => whnf
  -- each kind of command in its place
  have s171 : ¬ (zxc q A.1).1 = 0 → P 171 [some (.ref 0), some (.int q.1), some (.int q.2.2.1), some (.int q.2.2.2.2)] [] h n 0 0 := by
    intro z
    refine hgo [] 40 _ _ _ _ _ _ _ ?_
    conv => whnf
    exact ⟨Or.inl rfl, H0 z⟩
  have s135 : (¬ q.2.1 = 114 ∧ ¬ (zxc q A.1).1 = 0) ∨ (q.2.1 = 114 ∧ zxc q A.1 = zcR q.1 q.2.2.1 A.1) → P 135 [some (.ref 0), some (.int q.1), some (.int q.2.2.1), some (.int q.2.2.2.2)] [] h n 0 0 := by
    intro z
    refine hgo [171] 40 _ _ _ _ _ _ _ ?_
    conv => whnf
    refine ⟨_, hob, _, rfl, ?_⟩
    conv => whnf
    refine ⟨_, ht, _, rfl, ?_⟩
    conv => whnf
    refine ⟨fun k => ?_, fun k => ?_⟩
    · rcases z with z | z
      · exact s171 z.2
      · exact absurd z.1 k
    · rcases z with z | z
      · exact absurd k z.1
      · rw [z.2] at s171 H1 W'
        conv => whnf
        refine ⟨_, hob, ?_⟩
        refine S_X6_removeFault hC H ?_
        rcases zcR_cs q.1 q.2.2.1 A.1 with e | ⟨d', p', a1, a2, a3, a4, e⟩
        · rw [e] at s171 ⊢
          dsimp only
          conv => whnf
          refine ⟨fun _ => ?_, fun y => absurd y (by decide)⟩
          exact s171 z19
        · rw [e] at H1 W' ⊢
          dsimp only
          obtain ⟨f, g, ⟨r2, -, -⟩, -⟩ := (H.st.dr (d := d')).raw
          conv => whnf
          refine ⟨fun y => absurd rfl y, fun _ => ?_⟩
          conv => whnf
          refine ⟨_, hob, _, rfl, ?_⟩
          conv => whnf
          refine ⟨_, hst, ?_⟩
          rw [a1]
          refine S_X5_draft hC H.st a2 ?_
          conv => whnf
          refine ⟨_, r2, ?_⟩
          rw [a3]
          refine S_xtake hC H a2 a4 W' (fun h3 H3 o3 => ?_)
          conv => whnf
          exact ⟨Or.inr rfl, H1 rfl h3 H3 (hT.off o3 (by omega)) o3⟩
  have s100 : (¬ q.2.1 = 105 ∧ ((¬ q.2.1 = 114 ∧ ¬ (zxc q A.1).1 = 0) ∨ (q.2.1 = 114 ∧ zxc q A.1 = zcR q.1 q.2.2.1 A.1))) ∨ (q.2.1 = 105 ∧ zxc q A.1 = zcI q.1 q.2.2.1 q.2.2.2.2 A.1) → P 100 [some (.ref 0), some (.int q.1), some (.int q.2.2.1), some (.int q.2.2.2.2)] [] h n 0 0 := by
    intro z
    refine hgo [135] 40 _ _ _ _ _ _ _ ?_
    conv => whnf
    refine ⟨_, hob, _, rfl, ?_⟩
    conv => whnf
    refine ⟨_, ht, _, rfl, ?_⟩
    conv => whnf
    refine ⟨fun k => ?_, fun k => ?_⟩
    · rcases z with z | z
      · exact s135 z.2
      · exact absurd z.1 k
    · rcases z with z | z
      · exact absurd k z.1
      · have nx : ¬ (zcI q.1 q.2.2.1 q.2.2.2.2 A.1).1 = 0 → P 135 [some (.ref 0), some (.int q.1), some (.int q.2.2.1), some (.int q.2.2.2.2)] [] h n 0 0 := fun y => s135 (Or.inl ⟨by rw [z.1]; decide, by rw [z.2]; exact y⟩)
        rw [z.2] at H1 W'
        conv => whnf
        refine ⟨_, hob, ?_⟩
        refine S_X6_insertFault hC H ?_
        rcases zcI_cs q.1 q.2.2.1 q.2.2.2.2 A.1 with e | e | e | ⟨d', p', c', a1, a2, a3, a4, a5, a6, a7, e⟩
        · rw [e] at nx ⊢
          dsimp only
          conv => whnf
          refine ⟨fun _ => ?_, fun y => absurd y (by decide)⟩
          exact nx z19
        · rw [e] at nx ⊢
          dsimp only
          conv => whnf
          refine ⟨fun _ => ?_, fun y => absurd y (by decide)⟩
          exact nx z19
        · rw [e] at nx ⊢
          dsimp only
          conv => whnf
          refine ⟨fun _ => ?_, fun y => absurd y (by decide)⟩
          exact nx z19
        · rw [e] at H1 W' ⊢
          dsimp only
          conv => whnf
          refine ⟨fun y => absurd rfl y, fun _ => ?_⟩
          conv => whnf
          refine ⟨_, hob, _, rfl, ?_⟩
          conv => whnf
          refine ⟨_, hst, ?_⟩
          rw [a1, a3, a5]
          refine S_xput hC H a2 a4 a6 a7 W' (fun h3 H3 o3 => ?_)
          conv => whnf
          exact ⟨Or.inr rfl, H1 rfl h3 H3 (hT.off o3 (by omega)) o3⟩
  have s62 : (¬ q.2.1 = 109 ∧ ((¬ q.2.1 = 105 ∧ ((¬ q.2.1 = 114 ∧ ¬ (zxc q A.1).1 = 0) ∨ (q.2.1 = 114 ∧ zxc q A.1 = zcR q.1 q.2.2.1 A.1))) ∨ (q.2.1 = 105 ∧ zxc q A.1 = zcI q.1 q.2.2.1 q.2.2.2.2 A.1))) ∨ (q.2.1 = 109 ∧ zxc q A.1 = zcM q.1 q.2.2.1 q.2.2.2.2 A.1) → P 62 [some (.ref 0), some (.int q.1), some (.int q.2.2.1), some (.int q.2.2.2.2)] [] h n 0 0 := by
    intro z
    refine hgo [100] 40 _ _ _ _ _ _ _ ?_
    conv => whnf
    refine ⟨_, hob, _, rfl, ?_⟩
    conv => whnf
    refine ⟨_, ht, _, rfl, ?_⟩
    conv => whnf
    refine ⟨fun k => ?_, fun k => ?_⟩
    · rcases z with z | z
      · exact s100 z.2
      · exact absurd z.1 k
    · rcases z with z | z
      · exact absurd k z.1
      · have nx : ¬ (zcM q.1 q.2.2.1 q.2.2.2.2 A.1).1 = 0 → P 100 [some (.ref 0), some (.int q.1), some (.int q.2.2.1), some (.int q.2.2.2.2)] [] h n 0 0 := fun y => s100 (Or.inl ⟨by rw [z.1]; decide, Or.inl ⟨by rw [z.1]; decide, by rw [z.2]; exact y⟩⟩)
        rw [z.2] at H1 W'
        conv => whnf
        refine ⟨_, hob, ?_⟩
        refine S_X6_moveFault hC H ?_
        rcases zcM_cs q.1 q.2.2.1 q.2.2.2.2 A.1 with e | ⟨d', p', c', a1, a2, a3, a4, a5, a6, e⟩
        · rw [e] at nx ⊢
          dsimp only
          conv => whnf
          refine ⟨fun _ => ?_, fun y => absurd y (by decide)⟩
          exact nx z19
        · rw [e] at H1 W' ⊢
          dsimp only
          obtain ⟨f, g, ⟨r2, -, -⟩, -⟩ := (H.st.dr (d := d')).raw
          conv => whnf
          refine ⟨fun y => absurd rfl y, fun _ => ?_⟩
          conv => whnf
          refine ⟨_, hob, _, rfl, ?_⟩
          conv => whnf
          refine ⟨_, hst, ?_⟩
          rw [a1]
          refine S_X5_draft hC H.st a2 ?_
          conv => whnf
          refine ⟨_, r2, ?_⟩
          rw [a3, a5]
          refine S_xshift hC H a2 a4 a6 W' (fun h3 H3 o3 => ?_)
          conv => whnf
          exact ⟨Or.inr rfl, H1 rfl h3 H3 (hT.off o3 (by omega)) o3⟩
  refine ⟨fun k => ?_, fun k => ?_⟩
  · refine s62 ?_
    have k1 : ¬ q.2.1 = 101 := k
    by_cases k2 : q.2.1 = 109
    · exact Or.inr ⟨k2, by unfold zxc; rw [if_neg k1, if_pos k2]⟩
    · refine Or.inl ⟨k2, ?_⟩
      by_cases k3 : q.2.1 = 105
      · exact Or.inr ⟨k3, by unfold zxc; rw [if_neg k1, if_neg k2, if_pos k3]⟩
      · refine Or.inl ⟨k3, ?_⟩
        by_cases k4 : q.2.1 = 114
        · exact Or.inr ⟨k4, by unfold zxc; rw [if_neg k1, if_neg k2, if_neg k3, if_pos k4]⟩
        · refine Or.inl ⟨k4, ?_⟩
          unfold zxc
          rw [if_neg k1, if_neg k2, if_neg k3, if_neg k4]
          exact z19
  · have k1 : q.2.1 = 101 := k
    have ez : zxc q A.1 = zcE q.1 q.2.2.1 q.2.2.2.2 A.1 := by
      unfold zxc
      rw [if_pos k1]
    have nx : ¬ (zcE q.1 q.2.2.1 q.2.2.2.2 A.1).1 = 0 → P 62 [some (.ref 0), some (.int q.1), some (.int q.2.2.1), some (.int q.2.2.2.2)] [] h n 0 0 := fun y => s62 (Or.inl ⟨by rw [k1]; decide, Or.inl ⟨by rw [k1]; decide, Or.inl ⟨by rw [k1]; decide, by rw [ez]; exact y⟩⟩⟩)
    rw [ez] at H1 W'
    conv => whnf
    refine ⟨_, hob, ?_⟩
    refine S_X6_editFault hC H ?_
    rcases zcE_cs q.1 q.2.2.1 q.2.2.2.2 A.1 with e | e | ⟨d', p', c', a1, a2, a3, a4, a5, a6, e⟩
    · rw [e] at nx ⊢
      dsimp only
      conv => whnf
      refine ⟨fun _ => ?_, fun y => absurd y (by decide)⟩
      exact nx z19
    · rw [e] at nx ⊢
      dsimp only
      conv => whnf
      refine ⟨fun _ => ?_, fun y => absurd y (by decide)⟩
      exact nx z19
    · rw [e] at H1 W' ⊢
      dsimp only
      obtain ⟨f, g, ⟨r2, -, -⟩, -⟩ := (H.st.dr (d := d')).raw
      conv => whnf
      refine ⟨fun y => absurd rfl y, fun _ => ?_⟩
      conv => whnf
      refine ⟨_, hob, _, rfl, ?_⟩
      conv => whnf
      refine ⟨_, hst, ?_⟩
      rw [a1]
      refine S_X5_draft hC H.st a2 ?_
      conv => whnf
      refine ⟨_, r2, ?_⟩
      rw [a3, a5]
      refine S_xrep hC H a2 a4 a6 W' (fun h3 H3 o3 => ?_)
      conv => whnf
      exact ⟨Or.inr rfl, H1 rfl h3 H3 (hT.off o3 (by omega)) o3⟩

