/-! The whole program: the other calls that change something, but choose and accept -/
abbrev zgrow (σ : zS) : Prop := (zba σ).length < 10 ∧ zus σ = (zba σ).length ∧ zba σ = zd0 σ ∧ zba σ = zd1 σ
def zgr (σ : zS) (c : Nat) : zS := (zba σ ++ [(zus σ, c)], zd0 σ ++ [(zus σ, c)], zd1 σ ++ [(zus σ, c)], zus σ + 1, zpf σ, zac σ, zch σ)
def zcA (c : Int32) (σ : zS) : Nat × zS × Int32 := match zps c 100 with
  | none => (1, σ, 0)
  | some c' => if zgrow σ then (0, zgr σ c', nI (zus σ)) else (2, σ, 0)
theorem zgr_nod {L : zB} {u c : Nat} (h : (L.map Prod.fst).Nodup) (h2 : ∀ v ∈ L, v.1 < u) : ((L ++ [(u, c)]).map Prod.fst).Nodup := by
  have := znod_ins (M := L) (u := (u, c)) (k := L.length) (Nat.le_refl _) h (fun v hv => by have := h2 v hv; show v.1 ≠ u; omega)
  rw [show L.insertIdx L.length (u, c) = L ++ [(u, c)] from List.insertIdx_length_self] at this
  exact this
theorem zgr_wf {σ : zS} (W : zwf σ) (G : zgrow σ) {c : Nat} : zwf (zgr σ c) := by
  obtain ⟨w1, w2, w3, w4, w5, w6, w7, w8⟩ := W
  obtain ⟨g1, g2, g3, g4⟩ := G
  have hd : ∀ d, zdr (zgr σ c) d = zdr σ d ++ [(zus σ, c)] := by
    intro d
    unfold zdr
    by_cases e : d = 0
    · rw [if_pos e, if_pos e]; rfl
    · rw [if_neg e, if_neg e]; rfl
  have hlen : (zba (zgr σ c)).length = zus σ + 1 := by
    show (zba σ ++ [(zus σ, c)]).length = zus σ + 1
    rw [List.length_append, g2]
    rfl
  have hlt : ∀ d, ∀ v ∈ zdr (zgr σ c) d, v.1 < zus σ + 1 := by
    intro d v hv
    rw [hd d] at hv
    rcases List.mem_append.mp hv with h | h
    · exact Nat.lt_succ_of_lt (w5 d v h)
    · rw [List.mem_singleton.mp h]
      exact Nat.lt_succ_self _
  refine ⟨fun i v hv => ?_, by rw [hlen]; exact Nat.le_refl _, by show zus σ + 1 ≤ 30; omega, fun d => ?_, hlt, fun v hv w hw e => ?_, w7, w8⟩
  · have hv' : (zba σ ++ [(zus σ, c)])[i]? = some v := hv
    by_cases c1 : i < (zba σ).length
    · rw [List.getElem?_append_left c1] at hv'
      exact w1 i v hv'
    · have c2 : i = (zba σ).length := by
        have := (List.getElem?_eq_some_iff.mp hv').1
        rw [List.length_append] at this
        have e1 : [(zus σ, c)].length = 1 := rfl
        omega
      rw [c2, List.getElem?_append_right (Nat.le_refl _), Nat.sub_self] at hv'
      have hv2 : (zus σ, c) = v := Option.some.inj hv'
      rw [← hv2]
      show zus σ = i
      omega
  · rw [hd d]
    exact zgr_nod (w4 d) (w5 d)
  · rw [hlen]
    exact hlt 0 v hv
theorem zcA_wf {c : Int32} {σ : zS} (W : zwf σ) : zwf (zcA c σ).2.1 := by
  unfold zcA
  cases e : zps c 100 with
  | none => exact W
  | some c' =>
    by_cases g : zgrow σ
    · simp only [if_pos g]; exact zgr_wf W g
    · simp only [if_neg g]; exact W
set_option maxRecDepth 100000 in
theorem S_X6_addBase {C : zK} (hC : zCld 215 zTT C) {h : zH} {n : Nat} {K : zQ} {A : zA} (H : zX h A) {c : Int32} (H1 : ∀ h', zX h' (zoC (zcA c A.1) A).2.1 → zOff 0 96 h h' → zRet [0, 1] (zoC (zcA c A.1) A).1 (.int (zoC (zcA c A.1) A).2.2) K h' n) : C 75 [.ref 0, .int c] h n K := by
  have hob := H.1
  obtain ⟨nx, hH⟩ := H.2.2.1
  have hh := hH.1
  have hst := H.st.1
  have W := H.2.2.2.2.2.1
  have W' := zcA_wf (c := c) W
  refine zd_X6_addBase hC rfl fun P hgo hF => ?_
  refine hgo [] 40 _ _ _ _ _ _ _ ?_
  conv => whnf
  refine S_X6_isContent hC (fun c' e => ?_) (fun e => ?_)
  · obtain ⟨a1, a2⟩ := zps_some e
    conv => whnf
    refine ⟨fun _ => ?_, fun q => absurd q (by decide)⟩
    conv => whnf
    repeat (first
      | (refine ⟨_, by assumption, _, rfl, ?_⟩; conv => whnf)
      | (refine ⟨_, _, by assumption, Nat.le_of_ble_eq_true rfl, ?_⟩; conv => whnf)
      | (refine ⟨_, by assumption, Nat.le_of_ble_eq_true rfl, ⟨rfl, rfl⟩, ?_⟩; conv => whnf)
      | (refine ⟨_, by assumption, ?_⟩; conv => whnf))
    refine S_X5_baseCanGrow hC H.st (fun g1 g2 g3 g4 => ?_) (fun g => ?_)
    · have G : zgrow A.1 := ⟨g1, g2, g3, g4⟩
      have e1 : zcA c A.1 = (0, zgr A.1 c', nI (zus A.1)) := by
        unfold zcA
        rw [e]
        exact if_pos G
      rw [e1] at H1 W'
      have w3 := W.2.2.1
      conv => whnf
      refine ⟨fun _ => ?_, fun q => absurd q (by decide)⟩
      conv => whnf
      repeat (first
        | (refine ⟨_, by assumption, _, rfl, ?_⟩; conv => whnf)
        | (refine ⟨_, _, by assumption, Nat.le_of_ble_eq_true rfl, ?_⟩; conv => whnf)
        | (refine ⟨_, by assumption, Nat.le_of_ble_eq_true rfl, ⟨rfl, rfl⟩, ?_⟩; conv => whnf)
        | (refine ⟨_, by assumption, ?_⟩; conv => whnf))
      refine S_xkeep hC H (fun h2 H2 o2 => ?_)
      have ob2 := H2.1
      have st2 := H2.st.1
      conv => whnf
      repeat (first
        | (refine ⟨_, by assumption, _, rfl, ?_⟩; conv => whnf)
        | (refine ⟨_, _, by assumption, Nat.le_of_ble_eq_true rfl, ?_⟩; conv => whnf)
        | (refine ⟨_, by assumption, Nat.le_of_ble_eq_true rfl, ⟨rfl, rfl⟩, ?_⟩; conv => whnf)
        | (refine ⟨_, by assumption, ?_⟩; conv => whnf))
      rw [a1]
      refine S_X5_growBase hC H2.st (by show zus A.1 < 1000; omega) ⟨g1, by show (zd0 A.1).length < 15; rw [← g3]; omega, by show (zd1 A.1).length < 15; rw [← g4]; omega⟩ (by omega) (fun h3 hS o3 => ?_)
      conv => whnf
      exact H1 h3 (H2.put hS (o3.wd (by omega) (by omega)) W') (o2.tr (o3.wd (by omega) (by omega)))
    · have e1 : zcA c A.1 = (2, A.1, 0) := by
        unfold zcA
        rw [e]
        exact if_neg g
      rw [e1] at H1
      conv => whnf
      refine ⟨fun q => absurd rfl q, fun _ => ?_⟩
      conv => whnf
      exact ⟨rfl, H1 h H zOff.rf⟩
  · have e1 : zcA c A.1 = (1, A.1, 0) := by
      unfold zcA
      rw [e]
    rw [e1] at H1
    conv => whnf
    refine ⟨fun q => absurd rfl q, fun _ => ?_⟩
    conv => whnf
    exact ⟨rfl, H1 h H zOff.rf⟩
def zcP (d : Int32) (σ : zS) : Nat × zS × Int32 := match zps d 2 with
  | none => (1, σ, 0)
  | some d' => (0, (zba σ, zd0 σ, zd1 σ, zus σ, d', zac σ, zch σ), nI (zpf σ))
theorem zcP_wf {d : Int32} {σ : zS} (W : zwf σ) : zwf (zcP d σ).2.1 := by
  unfold zcP
  cases e : zps d 2 with
  | none => exact W
  | some d' =>
    obtain ⟨w1, w2, w3, w4, w5, w6, w7, w8⟩ := W
    have := (zps_some e).2
    exact ⟨w1, w2, w3, w4, w5, w6, Nat.le_of_lt_succ this, w8⟩
set_option maxRecDepth 100000 in
theorem S_X6_prefer {C : zK} (hC : zCld 215 zTT C) {h : zH} {n : Nat} {K : zQ} {A : zA} (H : zX h A) {d : Int32} (H1 : ∀ h', zX h' (zoC (zcP d A.1) A).2.1 → zOff 0 96 h h' → zRet [2] (zoC (zcP d A.1) A).1 (.int (zoC (zcP d A.1) A).2.2) K h' n) : C 93 [.ref 0, .int d] h n K := by
  have hob := H.1
  obtain ⟨nx, hH⟩ := H.2.2.1
  have hh := hH.1
  have hst := H.st.1
  have W := H.2.2.2.2.2.1
  have W' := zcP_wf (d := d) W
  refine zd_X6_prefer hC rfl fun P hgo hF => ?_
  refine hgo [] 40 _ _ _ _ _ _ _ ?_
  conv => whnf
  refine S_X6_isDraft hC (fun d' e => ?_) (fun e => ?_)
  · obtain ⟨a1, a2⟩ := zps_some e
    have e1 : zcP d A.1 = (0, (zba A.1, zd0 A.1, zd1 A.1, zus A.1, d', zac A.1, zch A.1), nI (zpf A.1)) := by
      unfold zcP
      rw [e]
    rw [e1] at H1 W'
    conv => whnf
    refine ⟨fun _ => ?_, fun q => absurd q (by decide)⟩
    conv => whnf
    repeat (first
      | (refine ⟨_, by assumption, _, rfl, ?_⟩; conv => whnf)
      | (refine ⟨_, _, by assumption, Nat.le_of_ble_eq_true rfl, ?_⟩; conv => whnf)
      | (refine ⟨_, by assumption, Nat.le_of_ble_eq_true rfl, ⟨rfl, rfl⟩, ?_⟩; conv => whnf)
      | (refine ⟨_, by assumption, ?_⟩; conv => whnf))
    refine S_xkeep hC H (fun h2 H2 o2 => ?_)
    have ob2 := H2.1
    have hS2 : zSta h2 1 A.1 := H2.st
    obtain ⟨st2, s2, s3, s4, ⟨cf, s5, s6⟩, s7⟩ := id hS2
    conv => whnf
    refine ⟨_, ob2, _, rfl, ?_⟩
    conv => whnf
    refine ⟨_, st2, _, rfl, ?_⟩
    conv => whnf
    refine ⟨_, ob2, _, rfl, ?_⟩
    conv => whnf
    refine ⟨_, st2, Nat.le_of_ble_eq_true rfl, ⟨rfl, rfl⟩, ?_⟩
    conv => whnf
    rw [a1]
    have o3 : zOff 1 2 h2 (zupd h2 1 (.inr (5, [.ref (1 + 1), .ref (1 + 4), .ref (1 + 7), .ref (1 + 10), .int (nI (zus A.1)), .int (nI d'), .int (nI (zac A.1))]))) := zOff.up (Nat.le_refl 1) (by omega)
    exact H1 _ (H2.put (σ := (zba A.1, zd0 A.1, zd1 A.1, zus A.1, d', zac A.1, zch A.1)) ⟨zupd_s, s2.off o3 (by omega), s3.off o3 (by omega), s4.off o3 (by omega), ⟨cf, (o3 _ (by omega)).trans s5, s6⟩, s7⟩ (o3.wd (by omega) (by omega)) W') (o2.tr (o3.wd (by omega) (by omega)))
  · have e1 : zcP d A.1 = (1, A.1, 0) := by
      unfold zcP
      rw [e]
    rw [e1] at H1
    conv => whnf
    refine ⟨fun q => absurd rfl q, fun _ => ?_⟩
    conv => whnf
    exact ⟨rfl, H1 h H zOff.rf⟩
def zoU (A : zA) : Nat × zA × Int32 := match A.2.1 with
  | [] => (1, A, 0)
  | σ :: Sv => (0, (σ, Sv, A.2.2), nI Sv.length)
theorem zoU_wf {A : zA} (W : zwA A) : zwA (zoU A).2.1 := by
  obtain ⟨w1, w2, w3, w4⟩ := id W
  unfold zoU
  cases e : A.2.1 with
  | nil => exact W
  | cons σ Sv =>
    rw [e] at w2 w3
    exact ⟨w2 σ (List.mem_cons_self), fun τ ht => w2 τ (List.mem_cons_of_mem _ ht), Nat.le_of_succ_le w3, w4⟩
set_option maxRecDepth 100000 in
theorem S_X6_undo {C : zK} (hC : zCld 215 zTT C) {h : zH} {n : Nat} {K : zQ} {A : zA} (H : zX h A) (H1 : ∀ h', zX h' (zoU A).2.1 → zOff 0 96 h h' → zRet [1] (zoU A).1 (.int (zoU A).2.2) K h' n) : C 102 [.ref 0] h n K := by
  have hob := H.1
  obtain ⟨nx, hH⟩ := H.2.2.1
  have hh := hH.1
  have W := H.2.2.2.2.2
  have W' := zoU_wf W
  refine zd_X6_undo hC rfl fun P hgo hF => ?_
  refine hgo [] 40 _ _ _ _ _ _ _ ?_
  conv => whnf
  refine ⟨_, hob, _, rfl, ?_⟩
  conv => whnf
  refine ⟨_, hh, _, rfl, ?_⟩
  conv => whnf
  unfold zoU at H1 W'
  cases e : A.2.1 with
  | nil =>
    rw [e] at H1
    refine ⟨fun q => absurd q (by decide), fun _ => ?_⟩
    conv => whnf
    exact ⟨rfl, H1 h H zOff.rf⟩
  | cons σ Sv =>
    rw [e] at H1 W' hH hh
    have hl : Sv.length + 1 ≤ 6 := hH.2.2.2.1
    have hpos : (0 : Int32) < nI (Sv.length + 1) := by
      rw [show (0 : Int32) = nI 0 by decide]
      exact nI_lt (by omega) (by omega)
    refine ⟨fun _ => ?_, fun q => absurd hpos q⟩
    conv => whnf
    refine ⟨_, hob, _, rfl, ?_⟩
    conv => whnf
    refine ⟨_, hob, _, rfl, ?_⟩
    conv => whnf
    refine ⟨_, hh, ?_⟩
    refine S_X3_restoreLast hC hH H.st.shp (Or.inl (by decide)) (fun h' nx' hH' hS' fr => ?_)
    have ho : zOff 1 80 h h' := fun a ha => fr a (by omega) (by omega)
    obtain ⟨z1, z2, z3, z4, ⟨q, z5⟩, z6⟩ := H
    conv => whnf
    exact H1 h' ⟨(ho _ (by omega)).trans z1, hS', ⟨nx', hH'⟩, z4.off ho (by omega), ⟨q, z5.off ho (by omega)⟩, W'⟩ (ho.wd (by omega) (by omega))

