/-! The whole program: questions about the merged text -/
set_option maxRecDepth 100000 in
theorem S_xmake {C : zK} (hC : zCld 215 zTT C) {h : zH} {n : Nat} {K : zQ} {A : zA} (H : zX h A) (H1 : ∀ h', zX h' A → zMer h' 80 A.1 → zOff 0 96 h h' → K 0 none h' n) : C 53 [.ref 80, .ref 1] h n K := by
  refine S_X4_make hC H.2.2.2.1 H.st H.w.1 (by omega) (fun h' hM ho => ?_)
  exact H1 h' (H.mer hM.shp (ho.wd (by omega) (by omega))) hM (ho.wd (by omega) (by omega))
theorem zX.mo {h : zH} {A : zA} (H : zX h A) : ∃ fs, h 80 = .inr (4, fs) := by
  obtain ⟨⟨k, cb, ck, pl, ct, a1, -⟩, -⟩ := H.2.2.2.1
  exact ⟨_, a1⟩
def zQ0 (σ : zS) : zB := zcfl σ (zba σ).length
theorem zknd_in {σ : zS} {i : Nat} {v : Nat × Nat} (h : v ∈ zknd σ i) : v.1 = i ∧ 1 ≤ v.2 ∧ v.2 ≤ 3 := by
  have h1 : v ∈ zkn1 σ i → v.1 = i ∧ 1 ≤ v.2 ∧ v.2 ≤ 3 := by
    intro z
    unfold zkn1 at z
    split at z
    · rw [List.mem_singleton.mp z]; exact ⟨rfl, Nat.le_of_ble_eq_true rfl, Nat.le_of_ble_eq_true rfl⟩
    · exact nomatch z
  have h2 : ∀ d, v ∈ zkn2 σ d i → v.1 = i ∧ 1 ≤ v.2 ∧ v.2 ≤ 3 := by
    intro d z
    unfold zkn2 at z
    split at z
    · rw [List.mem_singleton.mp z]; exact ⟨rfl, Nat.le_of_ble_eq_true rfl, Nat.le_of_ble_eq_true rfl⟩
    · exact nomatch z
  have h3 : v ∈ zkn3 σ i → v.1 = i ∧ 1 ≤ v.2 ∧ v.2 ≤ 3 := by
    intro z
    unfold zkn3 at z
    split at z
    · rw [List.mem_singleton.mp z]; exact ⟨rfl, Nat.le_of_ble_eq_true rfl, Nat.le_of_ble_eq_true rfl⟩
    · exact nomatch z
  unfold zknd at h
  split at h
  · split at h
    · exact nomatch h
    · exact h2 1 h
  · split at h
    · exact h2 0 h
    · rcases List.mem_append.mp h with z | z
      · exact h1 z
      · exact h3 z
theorem zcfl_in {σ : zS} {j : Nat} {v : Nat × Nat} (h : v ∈ zcfl σ j) : v.1 < j ∧ 1 ≤ v.2 ∧ v.2 ≤ 3 := by
  unfold zcfl at h
  obtain ⟨i, h1, h2⟩ := List.mem_flatMap.mp h
  have := zknd_in h2
  have := List.mem_range.mp h1
  omega
def zopn (σ : zS) (Q : zB) : Nat := (Q.filter (fun v => decide (zch σ (v.1 * 3 + (v.2 - 1)) = -1))).length
theorem zopn_s {σ : zS} {Q : zB} {j : Nat} {v : Nat × Nat} (hv : Q[j]? = some v) : zopn σ (Q.take (j + 1)) = zopn σ (Q.take j) + (if zch σ (v.1 * 3 + (v.2 - 1)) = -1 then 1 else 0) := by
  unfold zopn
  rw [List.take_succ, hv, List.filter_append, List.length_append]
  by_cases c : zch σ (v.1 * 3 + (v.2 - 1)) = -1
  · rw [if_pos c]; simp [c]
  · rw [if_neg c]; simp [c]
set_option maxRecDepth 100000 in
theorem S_X4_countOpen {C : zK} (hC : zCld 215 zTT C) {h : zH} {n : Nat} {K : zQ} {m s : Nat} {σ : zS} {pl ct : Nat → Int32} (H : zMk h m (zQ0 σ) pl ct) (Hs : zSta h s σ) (hnb : (zba σ).length ≤ 10) (H1 : K 0 (some (.int (nI (zopn σ (zQ0 σ))))) h n) : C 52 [.ref m, .ref s] h n K := by
  have hob := H.obj
  have hst := Hs.1
  have hle : (zQ0 σ).length ≤ 30 := by
    obtain ⟨cb, ck, -, h2, -⟩ := H
    exact h2
  refine zd_X4_countOpen hC rfl fun P hgo hF => ?_
  have loop : ∀ e j, j + e = (zQ0 σ).length → P 4 [some (.ref m), some (.ref s), some (.int (nI (zopn σ ((zQ0 σ).take j)))), some (.int (nI j))] [] h n 0 0 := by
    intro e
    induction e with
    | zero =>
      intro j hj
      refine hgo [4] 40 _ _ _ _ _ _ _ ?_
      conv => whnf
      refine ⟨_, hob, _, rfl, ?_⟩
      conv => whnf
      refine ⟨fun _ => ?_, fun q => absurd (nI_le (show (zQ0 σ).length ≤ j by omega) (show j < 2 ^ 31 by omega)) q⟩
      conv => whnf
      rw [List.take_of_length_le (by omega)]
      exact H1
    | succ e ih =>
      intro j hj
      obtain ⟨v, hv⟩ : ∃ v, (zQ0 σ)[j]? = some v := ⟨(zQ0 σ)[j], List.getElem?_eq_getElem (by omega)⟩
      have hvi := zcfl_in (List.mem_of_getElem? hv)
      have k9 := ih (j + 1) (by omega)
      rw [← zinc (j := j), zopn_s hv] at k9
      refine hgo [4] 40 _ _ _ _ _ _ _ ?_
      conv => whnf
      refine ⟨_, hob, _, rfl, ?_⟩
      conv => whnf
      refine ⟨fun q => absurd q (nI_ge (show j < (zQ0 σ).length by omega) (show (zQ0 σ).length < 2 ^ 31 by omega)), fun _ => ?_⟩
      conv => whnf
      refine ⟨_, hob, ?_⟩
      refine S_X4_blockOfConflict hC H hv ?_
      conv => whnf
      refine ⟨_, hob, ?_⟩
      refine S_X4_kindOfConflict hC H hv ?_
      conv => whnf
      refine ⟨_, hst, ?_⟩
      rw [show nI v.2 = nI (v.2 - 1 + 1) by rw [Nat.sub_add_cancel hvi.2.1]]
      refine S_X5_choice hC Hs (b := v.1) (k := v.2 - 1) (by omega) ?_
      conv => whnf
      refine ⟨fun q => ?_, fun q => ?_⟩
      · have c : ¬ zch σ (v.1 * 3 + (v.2 - 1)) = -1 := q
        rw [if_neg c] at k9
        conv => whnf
        exact k9
      · have c : zch σ (v.1 * 3 + (v.2 - 1)) = -1 := q
        rw [if_pos c, ← zinc] at k9
        conv => whnf
        exact k9
  refine hgo [4] 40 _ _ _ _ _ _ _ ?_
  conv => whnf
  exact loop (zQ0 σ).length 0 (by omega)
theorem zX.bl {h : zH} {A : zA} (H : zX h A) : (zba A.1).length ≤ 10 := by
  obtain ⟨f, g, -, h1, -⟩ := H.st.2.1.raw
  exact h1
set_option maxRecDepth 100000 in
theorem S_X6_mergedSize {C : zK} (hC : zCld 215 zTT C) {h : zH} {n : Nat} {K : zQ} {A : zA} (H : zX h A) (H1 : ∀ h', zX h' A → zOff 0 96 h h' → K 0 (some (.int (nI (zmer A.1).length))) h' n) : C 86 [.ref 0] h n K := by
  have hob := H.1
  obtain ⟨fs, hmo⟩ := H.mo
  refine zd_X6_mergedSize hC rfl fun P hgo hF => ?_
  refine hgo [] 30 _ _ _ _ _ _ _ ?_
  conv => whnf
  refine ⟨_, hob, _, rfl, ?_⟩
  conv => whnf
  refine ⟨_, hob, _, rfl, ?_⟩
  conv => whnf
  refine ⟨_, hmo, ?_⟩
  refine S_xmake hC H (fun h2 H2 M2 o2 => ?_)
  have ob2 := H2.1
  obtain ⟨⟨pl, ct, MK⟩, MB, MX0, MX1⟩ := M2
  have mo2 := MK.obj
  obtain ⟨f, g, ⟨r1, -, -⟩, -⟩ := MB.raw
  conv => whnf
  refine ⟨_, ob2, _, rfl, ?_⟩
  conv => whnf
  refine ⟨_, mo2, _, rfl, ?_⟩
  conv => whnf
  refine ⟨_, r1, _, rfl, ?_⟩
  conv => whnf
  exact H1 h2 H2 o2
set_option maxRecDepth 100000 in
theorem S_X6_conflicts {C : zK} (hC : zCld 215 zTT C) {h : zH} {n : Nat} {K : zQ} {A : zA} (H : zX h A) (H1 : ∀ h', zX h' A → zOff 0 96 h h' → K 0 (some (.int (nI (zQ0 A.1).length))) h' n) : C 89 [.ref 0] h n K := by
  have hob := H.1
  obtain ⟨fs, hmo⟩ := H.mo
  refine zd_X6_conflicts hC rfl fun P hgo hF => ?_
  refine hgo [] 30 _ _ _ _ _ _ _ ?_
  conv => whnf
  refine ⟨_, hob, _, rfl, ?_⟩
  conv => whnf
  refine ⟨_, hob, _, rfl, ?_⟩
  conv => whnf
  refine ⟨_, hmo, ?_⟩
  refine S_xmake hC H (fun h2 H2 M2 o2 => ?_)
  have ob2 := H2.1
  obtain ⟨⟨pl, ct, MK⟩, MB, MX0, MX1⟩ := M2
  have mo2 := MK.obj
  conv => whnf
  refine ⟨_, ob2, _, rfl, ?_⟩
  conv => whnf
  refine ⟨_, mo2, _, rfl, ?_⟩
  conv => whnf
  exact H1 h2 H2 o2
set_option maxRecDepth 100000 in
theorem S_X6_open {C : zK} (hC : zCld 215 zTT C) {h : zH} {n : Nat} {K : zQ} {A : zA} (H : zX h A) (H1 : ∀ h', zX h' A → zOff 0 96 h h' → K 0 (some (.int (nI (zopn A.1 (zQ0 A.1))))) h' n) : C 94 [.ref 0] h n K := by
  have hob := H.1
  obtain ⟨fs, hmo⟩ := H.mo
  refine zd_X6_open hC rfl fun P hgo hF => ?_
  refine hgo [] 30 _ _ _ _ _ _ _ ?_
  conv => whnf
  refine ⟨_, hob, _, rfl, ?_⟩
  conv => whnf
  refine ⟨_, hob, _, rfl, ?_⟩
  conv => whnf
  refine ⟨_, hmo, ?_⟩
  refine S_xmake hC H (fun h2 H2 M2 o2 => ?_)
  have ob2 := H2.1
  obtain ⟨⟨pl, ct, MK⟩, MB, MX0, MX1⟩ := M2
  have mo2 := MK.obj
  conv => whnf
  refine ⟨_, ob2, _, rfl, ?_⟩
  conv => whnf
  refine ⟨_, ob2, _, rfl, ?_⟩
  conv => whnf
  refine ⟨_, mo2, ?_⟩
  refine S_X4_countOpen hC MK H2.st H2.bl ?_
  conv => whnf
  exact H1 h2 H2 o2
def zgM (p : Int32) (σ : zS) : Option Int32 := (zps p (zmer σ).length).map (fun j => nI (znm (zmer σ) j))
def zgN (p : Int32) (σ : zS) : Option Int32 := (zps p (zmer σ).length).map (fun j => nI (zbc (zmer σ) j))
set_option maxRecDepth 100000 in
theorem S_X6_mergedBlock {C : zK} (hC : zCld 215 zTT C) {h : zH} {n : Nat} {K : zQ} {A : zA} (H : zX h A) {p : Int32} (H1 : ∀ h', zX h' A → zOff 0 96 h h' → zGet (zgM p A.1) K h' n) : C 87 [.ref 0, .int p] h n K := by
  have hob := H.1
  obtain ⟨fs, hmo⟩ := H.mo
  refine zd_X6_mergedBlock hC rfl fun P hgo hF => ?_
  refine hgo [] 30 _ _ _ _ _ _ _ ?_
  conv => whnf
  refine ⟨_, hob, _, rfl, ?_⟩
  conv => whnf
  refine ⟨_, hob, _, rfl, ?_⟩
  conv => whnf
  refine ⟨_, hmo, ?_⟩
  refine S_xmake hC H (fun h2 H2 M2 o2 => ?_)
  have ob2 := H2.1
  obtain ⟨⟨pl, ct, MK⟩, MB, MX0, MX1⟩ := M2
  have mo2 := MK.obj
  obtain ⟨f, g, ⟨r1, -, -⟩, hl, -⟩ := MB.raw
  have G := H1 h2 H2 o2
  unfold zgM at G
  conv => whnf
  refine ⟨_, ob2, _, rfl, ?_⟩
  conv => whnf
  refine ⟨_, mo2, _, rfl, ?_⟩
  conv => whnf
  refine ⟨_, r1, ?_⟩
  refine S_X0_holds hC MB (fun j hj e => ?_) (fun hno => ?_)
  · obtain ⟨u, u1, u2, u3, u4⟩ := znm_lt hj
    rw [e, zps_at hj (by omega)] at G
    have G2 : K 0 (some (.int (nI (znm (zmer A.1) j)))) h2 n := G
    rw [u3] at G2
    conv => whnf
    refine ⟨fun _ => ?_, fun q => absurd q (by decide)⟩
    conv => whnf
    refine ⟨_, ob2, _, rfl, ?_⟩
    conv => whnf
    refine ⟨_, mo2, _, rfl, ?_⟩
    conv => whnf
    refine ⟨_, r1, ?_⟩
    rw [e]
    refine S_numAt hC MB u1 ?_
    conv => whnf
    exact G2
  · cases e : zps p (zmer A.1).length with
    | none =>
      rw [e] at G
      conv => whnf
      refine ⟨fun q => absurd rfl q, fun _ => ?_⟩
      conv => whnf
      exact ⟨rfl, G⟩
    | some j =>
      obtain ⟨b1, b2⟩ := zps_some e
      exact absurd b1 (hno j b2)
set_option maxRecDepth 100000 in
theorem S_X6_mergedContent {C : zK} (hC : zCld 215 zTT C) {h : zH} {n : Nat} {K : zQ} {A : zA} (H : zX h A) {p : Int32} (H1 : ∀ h', zX h' A → zOff 0 96 h h' → zGet (zgN p A.1) K h' n) : C 88 [.ref 0, .int p] h n K := by
  have hob := H.1
  obtain ⟨fs, hmo⟩ := H.mo
  refine zd_X6_mergedContent hC rfl fun P hgo hF => ?_
  refine hgo [] 30 _ _ _ _ _ _ _ ?_
  conv => whnf
  refine ⟨_, hob, _, rfl, ?_⟩
  conv => whnf
  refine ⟨_, hob, _, rfl, ?_⟩
  conv => whnf
  refine ⟨_, hmo, ?_⟩
  refine S_xmake hC H (fun h2 H2 M2 o2 => ?_)
  have ob2 := H2.1
  obtain ⟨⟨pl, ct, MK⟩, MB, MX0, MX1⟩ := M2
  have mo2 := MK.obj
  obtain ⟨f, g, ⟨r1, -, -⟩, hl, -⟩ := MB.raw
  have G := H1 h2 H2 o2
  unfold zgN at G
  conv => whnf
  refine ⟨_, ob2, _, rfl, ?_⟩
  conv => whnf
  refine ⟨_, mo2, _, rfl, ?_⟩
  conv => whnf
  refine ⟨_, r1, ?_⟩
  refine S_X0_holds hC MB (fun j hj e => ?_) (fun hno => ?_)
  · obtain ⟨u, u1, u2, u3, u4⟩ := znm_lt hj
    rw [e, zps_at hj (by omega)] at G
    have G2 : K 0 (some (.int (nI (zbc (zmer A.1) j)))) h2 n := G
    rw [u4] at G2
    conv => whnf
    refine ⟨fun _ => ?_, fun q => absurd q (by decide)⟩
    conv => whnf
    refine ⟨_, ob2, _, rfl, ?_⟩
    conv => whnf
    refine ⟨_, mo2, _, rfl, ?_⟩
    conv => whnf
    refine ⟨_, r1, ?_⟩
    rw [e]
    refine S_conAt hC MB u1 ?_
    conv => whnf
    exact G2
  · cases e : zps p (zmer A.1).length with
    | none =>
      rw [e] at G
      conv => whnf
      refine ⟨fun q => absurd rfl q, fun _ => ?_⟩
      conv => whnf
      exact ⟨rfl, G⟩
    | some j =>
      obtain ⟨b1, b2⟩ := zps_some e
      exact absurd b1 (hno j b2)
def zgF (p : Int32) (σ : zS) : Option Int32 := (zps p (zQ0 σ).length).map (fun j => nI (znm (zQ0 σ) j))
def zgG (p : Int32) (σ : zS) : Option Int32 := (zps p (zQ0 σ).length).map (fun j => nI (zbc (zQ0 σ) j))
theorem zQ0_le {h : zH} {A : zA} (H : zX h A) : (zQ0 A.1).length < 2 ^ 31 := by
  have := zcfl_le (σ := A.1) (zba A.1).length
  have := H.bl
  unfold zQ0
  omega
set_option maxRecDepth 100000 in
theorem S_X6_conflictBlock {C : zK} (hC : zCld 215 zTT C) {h : zH} {n : Nat} {K : zQ} {A : zA} (H : zX h A) {p : Int32} (H1 : ∀ h', zX h' A → zOff 0 96 h h' → zGet (zgF p A.1) K h' n) : C 90 [.ref 0, .int p] h n K := by
  have hob := H.1
  have hq := zQ0_le H
  obtain ⟨fs, hmo⟩ := H.mo
  refine zd_X6_conflictBlock hC rfl fun P hgo hF => ?_
  refine hgo [] 30 _ _ _ _ _ _ _ ?_
  conv => whnf
  refine ⟨_, hob, _, rfl, ?_⟩
  conv => whnf
  refine ⟨_, hob, _, rfl, ?_⟩
  conv => whnf
  refine ⟨_, hmo, ?_⟩
  refine S_xmake hC H (fun h2 H2 M2 o2 => ?_)
  have ob2 := H2.1
  obtain ⟨⟨pl, ct, MK⟩, MB, MX0, MX1⟩ := M2
  have mo2 := MK.obj
  have G := H1 h2 H2 o2
  unfold zgF at G
  conv => whnf
  refine ⟨_, ob2, _, rfl, ?_⟩
  conv => whnf
  refine ⟨_, mo2, ?_⟩
  refine S_X4_hasConflict hC MK (fun j v hv e => ?_) (fun hno => ?_)
  · have hj : j < (zQ0 A.1).length := (List.getElem?_eq_some_iff.mp hv).1
    rw [e, zps_at hj hq] at G
    have G2 : K 0 (some (.int (nI (znm (zQ0 A.1) j)))) h2 n := G
    rw [znm_at (L := zQ0 A.1) hv] at G2
    conv => whnf
    refine ⟨fun _ => ?_, fun q => absurd q (by decide)⟩
    conv => whnf
    refine ⟨_, ob2, _, rfl, ?_⟩
    conv => whnf
    refine ⟨_, mo2, ?_⟩
    rw [e]
    refine S_X4_blockOfConflict hC MK hv ?_
    conv => whnf
    exact G2
  · cases e : zps p (zQ0 A.1).length with
    | none =>
      rw [e] at G
      conv => whnf
      refine ⟨fun q => absurd rfl q, fun _ => ?_⟩
      conv => whnf
      exact ⟨rfl, G⟩
    | some j =>
      obtain ⟨b1, b2⟩ := zps_some e
      exact absurd b1 (hno j b2)
set_option maxRecDepth 100000 in
theorem S_X6_conflictKind {C : zK} (hC : zCld 215 zTT C) {h : zH} {n : Nat} {K : zQ} {A : zA} (H : zX h A) {p : Int32} (H1 : ∀ h', zX h' A → zOff 0 96 h h' → zGet (zgG p A.1) K h' n) : C 91 [.ref 0, .int p] h n K := by
  have hob := H.1
  have hq := zQ0_le H
  obtain ⟨fs, hmo⟩ := H.mo
  refine zd_X6_conflictKind hC rfl fun P hgo hF => ?_
  refine hgo [] 30 _ _ _ _ _ _ _ ?_
  conv => whnf
  refine ⟨_, hob, _, rfl, ?_⟩
  conv => whnf
  refine ⟨_, hob, _, rfl, ?_⟩
  conv => whnf
  refine ⟨_, hmo, ?_⟩
  refine S_xmake hC H (fun h2 H2 M2 o2 => ?_)
  have ob2 := H2.1
  obtain ⟨⟨pl, ct, MK⟩, MB, MX0, MX1⟩ := M2
  have mo2 := MK.obj
  have G := H1 h2 H2 o2
  unfold zgG at G
  conv => whnf
  refine ⟨_, ob2, _, rfl, ?_⟩
  conv => whnf
  refine ⟨_, mo2, ?_⟩
  refine S_X4_hasConflict hC MK (fun j v hv e => ?_) (fun hno => ?_)
  · have hj : j < (zQ0 A.1).length := (List.getElem?_eq_some_iff.mp hv).1
    rw [e, zps_at hj hq] at G
    have G2 : K 0 (some (.int (nI (zbc (zQ0 A.1) j)))) h2 n := G
    rw [zbc_at (B := zQ0 A.1) hv] at G2
    conv => whnf
    refine ⟨fun _ => ?_, fun q => absurd q (by decide)⟩
    conv => whnf
    refine ⟨_, ob2, _, rfl, ?_⟩
    conv => whnf
    refine ⟨_, mo2, ?_⟩
    rw [e]
    refine S_X4_kindOfConflict hC MK hv ?_
    conv => whnf
    exact G2
  · cases e : zps p (zQ0 A.1).length with
    | none =>
      rw [e] at G
      conv => whnf
      refine ⟨fun q => absurd rfl q, fun _ => ?_⟩
      conv => whnf
      exact ⟨rfl, G⟩
    | some j =>
      obtain ⟨b1, b2⟩ := zps_some e
      exact absurd b1 (hno j b2)

