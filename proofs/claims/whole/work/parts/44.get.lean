/-! The whole program: text, and what does not merge -/
def zoA (c : Int32) (A : zA) : Nat × zA × Int32 := if c < 33 ∨ 126 < c then (1, A, 0) else if A.2.2.length = 60 then (2, A, 0) else (0, (A.1, A.2.1, A.2.2 ++ [c]), nI (A.2.2.length + 1))
theorem zoA_wf {c : Int32} {A : zA} (W : zwA A) : zwA (zoA c A).2.1 := by
  unfold zoA
  by_cases c1 : c < 33 ∨ 126 < c
  · rw [if_pos c1]; exact W
  · rw [if_neg c1]
    by_cases c2 : A.2.2.length = 60
    · rw [if_pos c2]; exact W
    · rw [if_neg c2]
      obtain ⟨w1, w2, w3, w4, w5⟩ := W
      refine ⟨w1, w2, w3, ?_, fun x hx => ?_⟩
      · show (A.2.2 ++ [c]).length ≤ 60
        rw [List.length_append]
        have e1 : [c].length = 1 := rfl
        omega
      · rcases List.mem_append.mp hx with h | h
        · exact w5 x h
        · rw [List.mem_singleton.mp h]
          exact ⟨Int32.not_lt.mp fun z => c1 (Or.inl z), Int32.not_lt.mp fun z => c1 (Or.inr z)⟩
theorem zX.tx {h : zH} {A : zA} (H : zX h A) : ∃ q, zTx h 94 A.2.2 q := H.2.2.2.2.1
theorem zX.w {h : zH} {A : zA} (H : zX h A) : zwA A := H.2.2.2.2.2
set_option maxRecDepth 100000 in
theorem S_X6_append {C : zK} (hC : zCld 215 zTT C) {h : zH} {n : Nat} {K : zQ} {A : zA} (H : zX h A) {c : Int32} (H1 : ∀ h', zX h' (zoA c A).2.1 → zOff 0 96 h h' → zRet [0, 1] (zoA c A).1 (.int (zoA c A).2.2) K h' n) : C 98 [.ref 0, .int c] h n K := by
  have hob := H.1
  obtain ⟨q, hT⟩ := H.tx
  have ht := hT.1
  have W := H.w
  have W' := zoA_wf (c := c) W
  have w4 := W.2.2.2.1
  unfold zoA at H1 W'
  have bad : (c < 33 ∨ 126 < c) → K 1 none h n := by
    intro z
    rw [if_pos z] at H1
    exact H1 h H zOff.rf
  refine zd_X6_append hC rfl fun P hgo hF => ?_
  have rest : ¬ c < 33 → ¬ 126 < c → P 22 [some (.ref 0), some (.int c)] [] h n 0 0 := by
    intro z1 z2
    have z3 : ¬ (c < 33 ∨ 126 < c) := fun z => z.elim z1 z2
    rw [if_neg z3] at H1 W'
    refine hgo [] 30 _ _ _ _ _ _ _ ?_
    conv => whnf
    refine ⟨_, hob, _, rfl, ?_⟩
    conv => whnf
    refine ⟨_, ht, _, rfl, ?_⟩
    conv => whnf
    refine ⟨fun q2 => ?_, fun q2 => ?_⟩
    · have c2 : ¬ A.2.2.length = 60 := fun z => by rw [z] at q2; exact absurd q2 (by decide)
      rw [if_neg c2] at H1 W'
      conv => whnf
      refine ⟨_, hob, _, rfl, ?_⟩
      conv => whnf
      refine ⟨_, ht, ?_⟩
      refine S_X1_putLast hC hT (by omega) (fun h' hT' ho => ?_)
      conv => whnf
      exact H1 h' (H.txt hT' (ho.wd (by omega) (by omega)) W'.2.2.2) (ho.wd (by omega) (by omega))
    · have c2 : A.2.2.length = 60 := by
        have : ¬ A.2.2.length < 60 := fun z => q2 (nI_lt z (by decide))
        omega
      rw [if_pos c2] at H1
      conv => whnf
      exact ⟨rfl, H1 h H zOff.rf⟩
  refine hgo [22] 30 _ _ _ _ _ _ _ ?_
  conv => whnf
  refine ⟨fun z1 => ?_, fun z1 => ?_⟩
  · conv => whnf
    exact ⟨rfl, bad (Or.inl z1)⟩
  · conv => whnf
    refine ⟨fun z2 => ?_, fun z2 => ?_⟩
    · exact rest z1 (fun z => absurd z2 (Int32.not_le.mpr z))
    · conv => whnf
      exact ⟨rfl, bad (Or.inr (Int32.not_le.mp z2))⟩
set_option maxRecDepth 100000 in
theorem S_X6_clearText {C : zK} (hC : zCld 215 zTT C) {h : zH} {n : Nat} {K : zQ} {A : zA} (H : zX h A) (H1 : ∀ h', zX h' (A.1, A.2.1, []) → zOff 0 96 h h' → K 0 (some (.int (nI A.2.2.length))) h' n) : C 99 [.ref 0] h n K := by
  have hob := H.1
  obtain ⟨q, hT⟩ := H.tx
  have ht := hT.1
  refine zd_X6_clearText hC rfl fun P hgo hF => ?_
  refine hgo [] 30 _ _ _ _ _ _ _ ?_
  conv => whnf
  refine ⟨_, hob, _, rfl, ?_⟩
  conv => whnf
  refine ⟨_, ht, ?_⟩
  refine S_X1_forget hC hT (fun h' hT' ho => ?_)
  conv => whnf
  exact H1 h' (H.txt hT' (ho.wd (by omega) (by omega)) ⟨Nat.zero_le _, fun c hc => nomatch hc⟩) (ho.wd (by omega) (by omega))
set_option maxRecDepth 100000 in
theorem S_X6_firstError {C : zK} (hC : zCld 215 zTT C) {h : zH} {n : Nat} {K : zQ} {A : zA} (H : zX h A) (H1 : ∀ h', zX h' A → zOff 0 96 h h' → K 0 (some (.int (nI (zfe zq0 A.2.2).1))) h' n) : C 100 [.ref 0] h n K := by
  have hob := H.1
  obtain ⟨q, hT⟩ := H.tx
  have ht := hT.1
  refine zd_X6_firstError hC rfl fun P hgo hF => ?_
  refine hgo [] 30 _ _ _ _ _ _ _ ?_
  conv => whnf
  refine ⟨_, hob, _, rfl, ?_⟩
  conv => whnf
  refine ⟨_, ht, ?_⟩
  refine S_X1_findError hC hT (fun h' hT' ho => ?_)
  conv => whnf
  exact H1 h' (H.txt hT' (ho.wd (by omega) (by omega)) H.w.2.2.2) (ho.wd (by omega) (by omega))
set_option maxRecDepth 100000 in
theorem S_X6_savedStates {C : zK} (hC : zCld 215 zTT C) {h : zH} {n : Nat} {K : zQ} {A : zA} (H : zX h A) (H1 : K 0 (some (.int (nI A.2.1.length))) h n) : C 103 [.ref 0] h n K := by
  have hob := H.1
  obtain ⟨nx, hH⟩ := H.2.2.1
  have hh := hH.1
  refine zd_X6_savedStates hC rfl fun P hgo hF => ?_
  refine hgo [] 30 _ _ _ _ _ _ _ ?_
  conv => whnf
  refine ⟨_, hob, _, rfl, ?_⟩
  conv => whnf
  refine ⟨_, hh, _, rfl, ?_⟩
  conv => whnf
  exact H1
set_option maxRecDepth 100000 in
theorem S_X6_accepted {C : zK} (hC : zCld 215 zTT C) {h : zH} {n : Nat} {K : zQ} {A : zA} (H : zX h A) (H1 : K 0 (some (.int (nI (zac A.1)))) h n) : C 96 [.ref 0] h n K := by
  have hob := H.1
  have hst := H.st.1
  refine zd_X6_accepted hC rfl fun P hgo hF => ?_
  refine hgo [] 30 _ _ _ _ _ _ _ ?_
  conv => whnf
  refine ⟨_, hob, _, rfl, ?_⟩
  conv => whnf
  refine ⟨_, hst, _, rfl, ?_⟩
  conv => whnf
  exact H1
set_option maxRecDepth 100000 in
theorem S_X6_baseSize {C : zK} (hC : zCld 215 zTT C) {h : zH} {n : Nat} {K : zQ} {A : zA} (H : zX h A) (H1 : K 0 (some (.int (nI (zba A.1).length))) h n) : C 80 [.ref 0] h n K := by
  have hob := H.1
  have hst := H.st.1
  obtain ⟨f, g, ⟨r1, -, -⟩, -⟩ := H.st.2.1.raw
  refine zd_X6_baseSize hC rfl fun P hgo hF => ?_
  refine hgo [] 30 _ _ _ _ _ _ _ ?_
  conv => whnf
  refine ⟨_, hob, _, rfl, ?_⟩
  conv => whnf
  refine ⟨_, hst, _, rfl, ?_⟩
  conv => whnf
  refine ⟨_, r1, _, rfl, ?_⟩
  conv => whnf
  exact H1
/-- how a question ends that may be refused -/
def zGet (r : Option Int32) (K : zQ) (h : zH) (n : Nat) : Prop := match r with
  | some v => K 0 (some (.int v)) h n
  | none => K 3 none h n
def zgS (d : Int32) (σ : zS) : Option Int32 := (zps d 2).map (fun d' => nI (zdr σ d').length)
def zgB (d p : Int32) (σ : zS) : Option Int32 := (zhp d p σ).map (fun r => nI (znm (zdr σ r.1) r.2))
def zgK (d p : Int32) (σ : zS) : Option Int32 := (zhp d p σ).map (fun r => nI (zbc (zdr σ r.1) r.2))
set_option maxRecDepth 100000 in
theorem S_X6_size {C : zK} (hC : zCld 215 zTT C) {h : zH} {n : Nat} {K : zQ} {A : zA} (H : zX h A) {d : Int32} (H1 : zGet (zgS d A.1) K h n) : C 81 [.ref 0, .int d] h n K := by
  have hob := H.1
  have hst := H.st.1
  unfold zgS at H1
  refine zd_X6_size hC rfl fun P hgo hF => ?_
  refine hgo [] 30 _ _ _ _ _ _ _ ?_
  conv => whnf
  refine S_X6_isDraft hC (fun d' e => ?_) (fun e => ?_)
  · obtain ⟨a1, a2⟩ := zps_some e
    obtain ⟨f, g, ⟨r1, -, -⟩, -⟩ := (H.st.dr (d := d')).raw
    rw [e] at H1
    conv => whnf
    refine ⟨fun _ => ?_, fun q => absurd q (by decide)⟩
    conv => whnf
    refine ⟨_, hob, _, rfl, ?_⟩
    conv => whnf
    refine ⟨_, hst, ?_⟩
    rw [a1]
    refine S_X5_draft hC H.st a2 ?_
    conv => whnf
    refine ⟨_, r1, _, rfl, ?_⟩
    conv => whnf
    exact H1
  · rw [e] at H1
    conv => whnf
    refine ⟨fun q => absurd rfl q, fun _ => ?_⟩
    conv => whnf
    exact ⟨rfl, H1⟩
set_option maxRecDepth 100000 in
theorem S_X6_block {C : zK} (hC : zCld 215 zTT C) {h : zH} {n : Nat} {K : zQ} {A : zA} (H : zX h A) {d p : Int32} (H1 : zGet (zgB d p A.1) K h n) : C 82 [.ref 0, .int d, .int p] h n K := by
  have hob := H.1
  have hst := H.st.1
  unfold zgB at H1
  refine zd_X6_block hC rfl fun P hgo hF => ?_
  refine hgo [] 30 _ _ _ _ _ _ _ ?_
  conv => whnf
  refine ⟨_, hob, ?_⟩
  refine S_X6_hasPosition hC H (fun d' p' e e2 => ?_) (fun e => ?_)
  · obtain ⟨a1, a2⟩ := zps_some e
    obtain ⟨b1, b2⟩ := zps_some e2
    obtain ⟨u, u1, u2, u3, u4⟩ := znm_lt b2
    obtain ⟨f, g, ⟨r1, -, -⟩, -⟩ := (H.st.dr (d := d')).raw
    have e3 : zhp d p A.1 = some (d', p') := by
      unfold zhp
      simp only [e, e2]
    rw [e3] at H1
    have H2 : K 0 (some (.int (nI (znm (zdr A.1 d') p')))) h n := H1
    rw [u3] at H2
    conv => whnf
    refine ⟨fun _ => ?_, fun q => absurd q (by decide)⟩
    conv => whnf
    refine ⟨_, hob, _, rfl, ?_⟩
    conv => whnf
    refine ⟨_, hst, ?_⟩
    rw [a1]
    refine S_X5_draft hC H.st a2 ?_
    conv => whnf
    refine ⟨_, r1, ?_⟩
    rw [b1]
    refine S_numAt hC (H.st.dr (d := d')) u1 ?_
    conv => whnf
    exact H2
  · rw [e] at H1
    conv => whnf
    refine ⟨fun q => absurd rfl q, fun _ => ?_⟩
    conv => whnf
    exact ⟨rfl, H1⟩
set_option maxRecDepth 100000 in
theorem S_X6_content {C : zK} (hC : zCld 215 zTT C) {h : zH} {n : Nat} {K : zQ} {A : zA} (H : zX h A) {d p : Int32} (H1 : zGet (zgK d p A.1) K h n) : C 83 [.ref 0, .int d, .int p] h n K := by
  have hob := H.1
  have hst := H.st.1
  unfold zgK at H1
  refine zd_X6_content hC rfl fun P hgo hF => ?_
  refine hgo [] 30 _ _ _ _ _ _ _ ?_
  conv => whnf
  refine ⟨_, hob, ?_⟩
  refine S_X6_hasPosition hC H (fun d' p' e e2 => ?_) (fun e => ?_)
  · obtain ⟨a1, a2⟩ := zps_some e
    obtain ⟨b1, b2⟩ := zps_some e2
    obtain ⟨u, u1, u2, u3, u4⟩ := znm_lt b2
    obtain ⟨f, g, ⟨r1, -, -⟩, -⟩ := (H.st.dr (d := d')).raw
    have e3 : zhp d p A.1 = some (d', p') := by
      unfold zhp
      simp only [e, e2]
    rw [e3] at H1
    have H2 : K 0 (some (.int (nI (zbc (zdr A.1 d') p')))) h n := H1
    rw [u4] at H2
    conv => whnf
    refine ⟨fun _ => ?_, fun q => absurd q (by decide)⟩
    conv => whnf
    refine ⟨_, hob, _, rfl, ?_⟩
    conv => whnf
    refine ⟨_, hst, ?_⟩
    rw [a1]
    refine S_X5_draft hC H.st a2 ?_
    conv => whnf
    refine ⟨_, r1, ?_⟩
    rw [b1]
    refine S_conAt hC (H.st.dr (d := d')) u1 ?_
    conv => whnf
    exact H2
  · rw [e] at H1
    conv => whnf
    refine ⟨fun q => absurd rfl q, fun _ => ?_⟩
    conv => whnf
    exact ⟨rfl, H1⟩

