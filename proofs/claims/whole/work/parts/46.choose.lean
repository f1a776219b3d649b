/-! The whole program: change, moves, choose, accept -/
def zgC (d b : Int32) (σ : zS) : Option Int32 := match zps d 2, zps b (zba σ).length with
  | some d', some b' => some (nI (zcx σ d' b'))
  | _, _ => none
theorem zMer.dx {h : zH} {m : Nat} {σ : zS} (M : zMer h m σ) {d : Nat} (hd : d < 2) : zDx h (zmc m d) (zba σ).length (zcx σ d) := by
  rcases (by omega : d = 0 ∨ d = 1) with rfl | rfl
  · exact M.2.2.1
  · exact M.2.2.2
set_option maxRecDepth 100000 in
theorem S_X6_change {C : zK} (hC : zCld 215 zTT C) {h : zH} {n : Nat} {K : zQ} {A : zA} (H : zX h A) {d b : Int32} (H1 : ∀ h', zX h' A → zOff 0 96 h h' → zGet (zgC d b A.1) K h' n) : C 84 [.ref 0, .int d, .int b] h n K := by
  have hob := H.1
  have hst := H.st.1
  obtain ⟨fs, hmo⟩ := H.mo
  obtain ⟨f0, g0, ⟨r0, -, -⟩, hl0, hN0, -⟩ := H.st.2.1.raw
  refine zd_X6_change hC rfl fun P hgo hF => ?_
  have bad : zgC d b A.1 = none → K 3 none h n := by
    intro z
    have k9 := H1 h H zOff.rf
    rw [z] at k9
    exact k9
  refine hgo [] 30 _ _ _ _ _ _ _ ?_
  conv => whnf
  refine S_X6_isDraft hC (fun d' e => ?_) (fun e => ?_)
  · obtain ⟨a1, a2⟩ := zps_some e
    conv => whnf
    refine ⟨fun q => absurd q (by decide), fun _ => ?_⟩
    conv => whnf
    refine ⟨_, hob, _, rfl, ?_⟩
    conv => whnf
    refine ⟨_, hst, _, rfl, ?_⟩
    conv => whnf
    refine ⟨_, r0, ?_⟩
    refine S_X0_holds hC H.st.2.1 (fun j hj e2 => ?_) (fun hno => ?_)
    · conv => whnf
      refine ⟨fun _ => ?_, fun q => absurd q (by decide)⟩
      conv => whnf
      refine ⟨_, hob, _, rfl, ?_⟩
      conv => whnf
      refine ⟨_, hob, _, rfl, ?_⟩
      conv => whnf
      refine ⟨_, hmo, ?_⟩
      refine S_xmake hC H (fun h2 H2 M2 o2 => ?_)
      have ob2 := H2.1
      have MX := M2.dx a2
      obtain ⟨⟨pl, ct, MK⟩, MB, MX0, MX1⟩ := M2
      have mo2 := MK.obj
      have G := H1 h2 H2 o2
      unfold zgC at G
      rw [e, e2, zps_at hj (by omega)] at G
      conv => whnf
      refine ⟨_, ob2, _, rfl, ?_⟩
      conv => whnf
      refine ⟨_, mo2, ?_⟩
      rw [a1]
      refine S_X4_changesOf hC MK a2 ?_
      conv => whnf
      refine ⟨_, MX.obj, ?_⟩
      rw [e2]
      refine S_X2_of hC MX hj ?_
      conv => whnf
      exact G
    · have z : zgC d b A.1 = none := by
        unfold zgC
        cases e3 : zps b (zba A.1).length with
        | none => rw [e]
        | some j =>
          obtain ⟨b1, b2⟩ := zps_some e3
          exact absurd b1 (hno j b2)
      conv => whnf
      refine ⟨fun q => absurd rfl q, fun _ => ?_⟩
      conv => whnf
      exact ⟨rfl, bad z⟩
  · have z : zgC d b A.1 = none := by
      unfold zgC
      rw [e]
    conv => whnf
    refine ⟨fun _ => ?_, fun q => absurd rfl q⟩
    conv => whnf
    exact ⟨rfl, bad z⟩
def zgV (d : Int32) (σ : zS) : Option Int32 := (zps d 2).map (fun d' => nI (zcm (zba σ).length (zcx σ d')))
set_option maxRecDepth 100000 in
theorem S_X6_moves {C : zK} (hC : zCld 215 zTT C) {h : zH} {n : Nat} {K : zQ} {A : zA} (H : zX h A) {d : Int32} (H1 : ∀ h', zX h' A → zOff 0 96 h h' → zGet (zgV d A.1) K h' n) : C 85 [.ref 0, .int d] h n K := by
  have hob := H.1
  obtain ⟨fs, hmo⟩ := H.mo
  refine zd_X6_moves hC rfl fun P hgo hF => ?_
  unfold zgV at H1
  refine hgo [] 30 _ _ _ _ _ _ _ ?_
  conv => whnf
  refine S_X6_isDraft hC (fun d' e => ?_) (fun e => ?_)
  · obtain ⟨a1, a2⟩ := zps_some e
    rw [e] at H1
    conv => whnf
    refine ⟨fun _ => ?_, fun q => absurd q (by decide)⟩
    conv => whnf
    refine ⟨_, hob, _, rfl, ?_⟩
    conv => whnf
    refine ⟨_, hob, _, rfl, ?_⟩
    conv => whnf
    refine ⟨_, hmo, ?_⟩
    refine S_xmake hC H (fun h2 H2 M2 o2 => ?_)
    have ob2 := H2.1
    have st2 := H2.st.1
    obtain ⟨f0, g0, ⟨r0, -, -⟩, -⟩ := H2.st.2.1.raw
    have MX := M2.dx a2
    obtain ⟨⟨pl, ct, MK⟩, MB, MX0, MX1⟩ := M2
    have mo2 := MK.obj
    conv => whnf
    refine ⟨_, ob2, _, rfl, ?_⟩
    conv => whnf
    refine ⟨_, mo2, ?_⟩
    rw [a1]
    refine S_X4_changesOf hC MK a2 ?_
    conv => whnf
    refine ⟨_, ob2, _, rfl, ?_⟩
    conv => whnf
    refine ⟨_, st2, _, rfl, ?_⟩
    conv => whnf
    refine ⟨_, r0, _, rfl, ?_⟩
    conv => whnf
    refine ⟨_, MX.obj, ?_⟩
    refine S_X2_countMoved hC MX ?_
    conv => whnf
    exact H1 h2 H2 o2
  · rw [e] at H1
    conv => whnf
    refine ⟨fun q => absurd rfl q, fun _ => ?_⟩
    conv => whnf
    exact ⟨rfl, H1 h H zOff.rf⟩
/-- choose: the conflict's choice -/
def zcC (p d : Int32) (σ : zS) : Nat × zS × Int32 := match zps p (zQ0 σ).length with
  | none => (1, σ, 0)
  | some j => if d = -1 ∨ d = 0 ∨ d = 1 then (0, (zba σ, zd0 σ, zd1 σ, zus σ, zpf σ, zac σ, upd (zch σ) (znm (zQ0 σ) j * 3 + (zbc (zQ0 σ) j - 1)) d), zch σ (znm (zQ0 σ) j * 3 + (zbc (zQ0 σ) j - 1))) else (2, σ, 0)
theorem zcC_wf {p d : Int32} {σ : zS} (W : zwf σ) : zwf (zcC p d σ).2.1 := by
  unfold zcC
  cases e : zps p (zQ0 σ).length with
  | none => exact W
  | some j =>
    by_cases c : d = -1 ∨ d = 0 ∨ d = 1
    · simp only [if_pos c]
      obtain ⟨w1, w2, w3, w4, w5, w6, w7, w8⟩ := W
      refine ⟨w1, w2, w3, w4, w5, w6, w7, fun k hk => ?_⟩
      show upd (zch σ) (znm (zQ0 σ) j * 3 + (zbc (zQ0 σ) j - 1)) d k = -1 ∨ upd (zch σ) (znm (zQ0 σ) j * 3 + (zbc (zQ0 σ) j - 1)) d k = 0 ∨ upd (zch σ) (znm (zQ0 σ) j * 3 + (zbc (zQ0 σ) j - 1)) d k = 1
      by_cases c2 : k = znm (zQ0 σ) j * 3 + (zbc (zQ0 σ) j - 1)
      · rw [c2, upd_s]; exact c
      · rw [upd_n c2]; exact w8 k hk
    · simp only [if_neg c]; exact W
set_option maxRecDepth 100000 in
theorem S_X6_choose {C : zK} (hC : zCld 215 zTT C) {h : zH} {n : Nat} {K : zQ} {A : zA} (H : zX h A) {p d : Int32} (H1 : ∀ h', zX h' (zoC (zcC p d A.1) A).2.1 → zOff 0 96 h h' → zRet [2, 0] (zoC (zcC p d A.1) A).1 (.int (zoC (zcC p d A.1) A).2.2) K h' n) : C 92 [.ref 0, .int p, .int d] h n K := by
  have hob := H.1
  have hq := zQ0_le H
  have W' := zcC_wf (p := p) (d := d) H.w.1
  obtain ⟨fs, hmo⟩ := H.mo
  refine zd_X6_choose hC rfl fun P hgo hF => ?_
  have cut : ∀ (h2 : zH) (pl ct : Nat → Int32) (j : Nat) (v : Nat × Nat), zX h2 A → zMk h2 80 (zQ0 A.1) pl ct → (zQ0 A.1)[j]? = some v → p = nI j → (d = -1 ∨ d = 0 ∨ d = 1) → zOff 0 96 h h2 → P 54 [some (.ref 0), some (.int p), some (.int d)] [] h2 n 0 0 := by
    intro h2 pl ct j v H2 MK hv e c o2
    have ob2 := H2.1
    obtain ⟨nx2, hH2⟩ := H2.2.2.1
    have hh2 := hH2.1
    have hj : j < (zQ0 A.1).length := (List.getElem?_eq_some_iff.mp hv).1
    have hvi := zcfl_in (List.mem_of_getElem? hv)
    have hnb := H.bl
    have e1 : zcC p d A.1 = (0, (zba A.1, zd0 A.1, zd1 A.1, zus A.1, zpf A.1, zac A.1, upd (zch A.1) (v.1 * 3 + (v.2 - 1)) d), zch A.1 (v.1 * 3 + (v.2 - 1))) := by
      unfold zcC
      rw [e, zps_at hj hq]
      show (if d = -1 ∨ d = 0 ∨ d = 1 then _ else _) = _
      rw [if_pos c, znm_at hv, zbc_at hv]
    rw [e1] at H1 W'
    refine hgo [] 40 _ _ _ _ _ _ _ ?_
    conv => whnf
    refine ⟨_, ob2, _, rfl, ?_⟩
    conv => whnf
    refine ⟨_, ob2, _, rfl, ?_⟩
    conv => whnf
    refine ⟨_, hh2, ?_⟩
    obtain ⟨nxk, hhk⟩ := H2.2.2.1
    refine S_X3_keep hC hhk H2.st (Or.inl (by decide)) (fun h3 nx3 hk3 ho3 => ?_)
    have H3 := H2.kept hk3 ho3
    have MK3 : zMk h3 80 (zQ0 A.1) pl ct := MK.off (lo := 0) (hi := 0) (fun a ha => ho3 a (by omega))
    have ob3 := H3.1
    have st3 := H3.st.1
    have mo3 := MK3.obj
    conv => whnf
    refine ⟨_, ob3, _, rfl, ?_⟩
    conv => whnf
    refine ⟨_, ob3, _, rfl, ?_⟩
    conv => whnf
    refine ⟨_, mo3, ?_⟩
    rw [e]
    refine S_X4_blockOfConflict hC MK3 hv ?_
    conv => whnf
    refine ⟨_, ob3, _, rfl, ?_⟩
    conv => whnf
    refine ⟨_, mo3, ?_⟩
    refine S_X4_kindOfConflict hC MK3 hv ?_
    conv => whnf
    refine ⟨_, st3, ?_⟩
    rw [show nI v.2 = nI (v.2 - 1 + 1) by rw [Nat.sub_add_cancel hvi.2.1]]
    refine S_X5_setChoice hC H3.st (b := v.1) (k := v.2 - 1) (by omega) (fun h4 hS4 o4 => ?_)
    conv => whnf
    exact H1 h4 (H3.put hS4 (o4.wd (by omega) (by omega)) W') ((o2.tr (ho3.wd (by omega) (by omega))).tr (o4.wd (by omega) (by omega)))
  refine hgo [54] 30 _ _ _ _ _ _ _ ?_
  conv => whnf
  refine ⟨_, hob, _, rfl, ?_⟩
  conv => whnf
  refine ⟨_, hob, _, rfl, ?_⟩
  conv => whnf
  refine ⟨_, hmo, ?_⟩
  refine S_xmake hC H (fun h2 H2 M2 o2 => ?_)
  have ob2 := H2.1
  obtain ⟨⟨pl, ct, MK⟩, MB, MX0, MX1⟩ := M2
  have mo2 := MK.obj
  conv => whnf
  refine ⟨_, ob2, _, rfl, ?_⟩
  conv => whnf
  refine ⟨_, mo2, ?_⟩
  refine S_X4_hasConflict hC MK (fun j v hv e => ?_) (fun hno => ?_)
  · have hj : j < (zQ0 A.1).length := (List.getElem?_eq_some_iff.mp hv).1
    conv => whnf
    refine ⟨fun _ => ?_, fun q => absurd q (by decide)⟩
    conv => whnf
    refine S_X6_isDraft hC (fun d' e2 => ?_) (fun e2 => ?_)
    · obtain ⟨a1, a2⟩ := zps_some e2
      conv => whnf
      refine ⟨fun _ => ?_, fun q => absurd q (by decide)⟩
      conv => whnf
      refine cut h2 pl ct j v H2 MK hv e ?_ o2
      rcases (by omega : d' = 0 ∨ d' = 1) with z | z
      · rw [a1, z]; exact Or.inr (Or.inl rfl)
      · rw [a1, z]; exact Or.inr (Or.inr rfl)
    · conv => whnf
      refine ⟨fun q => absurd rfl q, fun _ => ?_⟩
      conv => whnf
      refine ⟨fun q => ?_, fun q => ?_⟩
      · conv => whnf
        exact cut h2 pl ct j v H2 MK hv e (Or.inl q) o2
      · have c : ¬ (d = -1 ∨ d = 0 ∨ d = 1) := by
          intro z
          rcases z with z | z | z
          · exact q z
          · exact absurd z (zps_none e2 0 (by decide))
          · exact absurd z (zps_none e2 1 (by decide))
        have e1 : zcC p d A.1 = (2, A.1, 0) := by
          unfold zcC
          rw [e, zps_at hj hq]
          exact if_neg c
        rw [e1] at H1
        conv => whnf
        exact ⟨rfl, H1 h2 H2 o2⟩
  · have e1 : zcC p d A.1 = (1, A.1, 0) := by
      unfold zcC
      cases e3 : zps p (zQ0 A.1).length with
      | none => rfl
      | some j =>
        obtain ⟨b1, b2⟩ := zps_some e3
        exact absurd b1 (hno j b2)
    rw [e1] at H1
    conv => whnf
    refine ⟨fun q => absurd rfl q, fun _ => ?_⟩
    conv => whnf
    exact ⟨rfl, H1 h2 H2 o2⟩
def zcT (σ : zS) : Nat × zS × Int32 := if 0 < zopn σ (zQ0 σ) ∨ 10 < (zmer σ).length then (1, σ, 0) else (0, (zre (zmer σ), zre (zmer σ), zre (zmer σ), (zmer σ).length, zpf σ, zac σ + 1, fun _ => -1), nI (zmer σ).length)
theorem zre_fst {M : zB} : (zre M).map Prod.fst = List.range M.length := by
  refine List.ext_getElem? fun i => ?_
  rw [List.getElem?_map, zre_get]
  by_cases c : i < M.length
  · rw [List.getElem?_eq_getElem c, List.getElem?_range c]
    rfl
  · rw [List.getElem?_eq_none (Nat.le_of_not_lt c), List.getElem?_eq_none (by rw [List.length_range]; exact Nat.le_of_not_lt c)]
    rfl
theorem zre_in {M : zB} {v : Nat × Nat} (h : v ∈ zre M) : v.1 < M.length := by
  have : v.1 ∈ (zre M).map Prod.fst := List.mem_map.mpr ⟨v, h, rfl⟩
  rw [zre_fst] at this
  exact List.mem_range.mp this
theorem zcT_wf {σ : zS} (W : zwf σ) : zwf (zcT σ).2.1 := by
  unfold zcT
  by_cases c : 0 < zopn σ (zQ0 σ) ∨ 10 < (zmer σ).length
  · rw [if_pos c]; exact W
  · rw [if_neg c]
    have hl : (zmer σ).length ≤ 10 := Nat.le_of_not_lt fun z => c (Or.inr z)
    obtain ⟨w1, w2, w3, w4, w5, w6, w7, w8⟩ := W
    generalize zmer σ = M at hl ⊢
    have hd : ∀ d, zdr (zre M, zre M, zre M, M.length, zpf σ, zac σ + 1, fun _ => -1) d = zre M := by
      intro d
      unfold zdr
      split <;> rfl
    refine ⟨fun i v hv => ?_, ?_, ?_, fun d => ?_, fun d v hv => ?_, fun v hv w hw e => ?_, w7, fun k hk => Or.inl rfl⟩
    · have hv' : (zre M)[i]? = some v := hv
      rw [zre_get] at hv'
      cases e : M[i]? with
      | none => rw [e] at hv'; exact nomatch hv'
      | some u =>
        rw [e] at hv'
        have : (i, u.2) = v := Option.some.inj hv'
        rw [← this]
    · show (zre M).length ≤ M.length
      rw [zre_len]
      exact Nat.le_refl _
    · show M.length ≤ 30
      omega
    · rw [hd, zre_fst]
      exact List.nodup_range
    · rw [hd] at hv
      exact zre_in hv
    · show v.1 < (zre M).length
      rw [zre_len]
      exact zre_in hv
set_option maxRecDepth 100000 in
theorem S_X6_accept {C : zK} (hC : zCld 215 zTT C) {h : zH} {n : Nat} {K : zQ} {A : zA} (H : zX h A) (H1 : ∀ h', zX h' (zoC (zcT A.1) A).2.1 → zOff 0 96 h h' → zRet [1] (zoC (zcT A.1) A).1 (.int (zoC (zcT A.1) A).2.2) K h' n) : C 95 [.ref 0] h n K := by
  have hob := H.1
  have W' := zcT_wf H.w.1
  obtain ⟨fs, hmo⟩ := H.mo
  refine zd_X6_accept hC rfl fun P hgo hF => ?_
  unfold zcT at H1 W'
  have bad : ∀ h2, zX h2 A → zOff 0 96 h h2 → (0 < zopn A.1 (zQ0 A.1) ∨ 10 < (zmer A.1).length) → K 2 none h2 n := by
    intro h2 H2 o2 z
    rw [if_pos z] at H1
    exact H1 h2 H2 o2
  have cut : ∀ (h2 : zH) , zX h2 A → zMer h2 80 A.1 → ¬ (0 < zopn A.1 (zQ0 A.1) ∨ 10 < (zmer A.1).length) → zOff 0 96 h h2 → P 50 [some (.ref 0)] [] h2 n 0 0 := by
    intro h2 H2 M2 c o2
    obtain ⟨⟨pl, ct, MK⟩, MB, MX0, MX1⟩ := M2
    have ob2 := H2.1
    have hl : (zmer A.1).length ≤ 10 := Nat.le_of_not_lt fun z => c (Or.inr z)
    obtain ⟨nxk, hhk⟩ := H2.2.2.1
    have hh2 := hhk.1
    rw [if_neg c] at H1 W'
    refine hgo [] 40 _ _ _ _ _ _ _ ?_
    conv => whnf
    refine ⟨_, ob2, _, rfl, ?_⟩
    conv => whnf
    refine ⟨_, ob2, _, rfl, ?_⟩
    conv => whnf
    refine ⟨_, hh2, ?_⟩
    refine S_X3_keep hC hhk H2.st (Or.inl (by decide)) (fun h3 nx3 hk3 ho3 => ?_)
    have H3 := H2.kept hk3 ho3
    have MK3 : zMk h3 80 (zQ0 A.1) pl ct := MK.off (lo := 0) (hi := 0) (fun a ha => ho3 a (by omega))
    have MB3 := MB.off ho3 (by omega)
    have ob3 := H3.1
    have st3 := H3.st.1
    have mo3 := MK3.obj
    conv => whnf
    refine ⟨_, ob3, _, rfl, ?_⟩
    conv => whnf
    refine ⟨_, ob3, _, rfl, ?_⟩
    conv => whnf
    refine ⟨_, mo3, _, rfl, ?_⟩
    conv => whnf
    refine ⟨_, st3, ?_⟩
    refine S_X5_takeAsBase hC H3.st MB3 hl (by omega) (fun h4 hS4 o4 => ?_)
    have H4 := H3.put hS4 (o4.wd (by omega) (by omega)) W'
    have ob4 := H4.1
    have st4 := hS4.1
    obtain ⟨f, g, ⟨r4, -, -⟩, -⟩ := hS4.2.1.raw
    rw [show (zba (zre (zmer A.1), zre (zmer A.1), zre (zmer A.1), (zmer A.1).length, zpf A.1, zac A.1 + 1, fun _ => -1)) = zre (zmer A.1) from rfl, zre_len] at r4
    conv => whnf
    refine ⟨_, ob4, _, rfl, ?_⟩
    conv => whnf
    refine ⟨_, st4, _, rfl, ?_⟩
    conv => whnf
    refine ⟨_, r4, _, rfl, ?_⟩
    conv => whnf
    exact H1 h4 H4 ((o2.tr (ho3.wd (by omega) (by omega))).tr (o4.wd (by omega) (by omega)))
  refine hgo [50] 30 _ _ _ _ _ _ _ ?_
  conv => whnf
  refine ⟨_, hob, _, rfl, ?_⟩
  conv => whnf
  refine ⟨_, hob, _, rfl, ?_⟩
  conv => whnf
  refine ⟨_, hmo, ?_⟩
  refine S_xmake hC H (fun h2 H2 M2 o2 => ?_)
  have ob2 := H2.1
  have M20 := M2
  obtain ⟨⟨pl, ct, MK⟩, MB, MX0, MX1⟩ := M2
  have mo2 := MK.obj
  obtain ⟨f, g, ⟨r2, -, -⟩, hl2, -⟩ := MB.raw
  have hcnt : zopn A.1 (zQ0 A.1) ≤ 30 := by
    have a1 := zcfl_le (σ := A.1) (zba A.1).length
    have a2 := H.bl
    have a3 : zopn A.1 (zQ0 A.1) ≤ (zQ0 A.1).length := List.length_filter_le _ _
    have a4 : (zQ0 A.1).length = (zcfl A.1 (zba A.1).length).length := rfl
    omega
  conv => whnf
  refine ⟨_, ob2, _, rfl, ?_⟩
  conv => whnf
  refine ⟨_, ob2, _, rfl, ?_⟩
  conv => whnf
  refine ⟨_, mo2, ?_⟩
  refine S_X4_countOpen hC MK H2.st H2.bl ?_
  conv => whnf
  refine ⟨fun q => ?_, fun q => ?_⟩
  · have z : 0 < zopn A.1 (zQ0 A.1) := (nI_ltI (a := 0) (b := zopn A.1 (zQ0 A.1)) (by decide) (by omega)).mp q
    conv => whnf
    exact ⟨rfl, bad h2 H2 o2 (Or.inl z)⟩
  · have z : ¬ 0 < zopn A.1 (zQ0 A.1) := fun y => q ((nI_ltI (a := 0) (b := zopn A.1 (zQ0 A.1)) (by decide) (by omega)).mpr y)
    conv => whnf
    refine ⟨_, ob2, _, rfl, ?_⟩
    conv => whnf
    refine ⟨_, mo2, _, rfl, ?_⟩
    conv => whnf
    refine ⟨_, r2, _, rfl, ?_⟩
    conv => whnf
    refine ⟨fun q2 => ?_, fun q2 => ?_⟩
    · have z2 : (zmer A.1).length ≤ 10 := (nI_leI (a := (zmer A.1).length) (b := 10) (by omega) (by decide)).mp q2
      conv => whnf
      exact cut h2 H2 M20 (fun y => y.elim z (fun y2 => by omega)) o2
    · have z2 : ¬ (zmer A.1).length ≤ 10 := fun y => q2 ((nI_leI (a := (zmer A.1).length) (b := 10) (by omega) (by decide)).mpr y)
      conv => whnf
      exact ⟨rfl, bad h2 H2 o2 (Or.inr (by omega))⟩

