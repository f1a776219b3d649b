/-! The states that calls reach -/
theorem zwf_sd {σ : zS} (W : zwf σ) {d : Nat} (hd : d < 2) {L : zB} (h1 : (L.map Prod.fst).Nodup) (h2 : ∀ v ∈ L, v.1 < zus σ) (h3 : ∀ v ∈ L, (∃ w ∈ zdr σ d, w.1 = v.1) ∨ ∀ w ∈ zdr σ (1 - d), w.1 ≠ v.1) : zwf (zsd σ d L) := by
  obtain ⟨w1, w2, w3, w4, w5, w6, w7, w8⟩ := W
  rcases (by omega : d = 0 ∨ d = 1) with e | e
  · rw [e] at h3 ⊢
    refine ⟨w1, w2, w3, fun d' => ?_, fun d' => ?_, fun v hv w hw e9 => ?_, w7, w8⟩
    · by_cases c : d' = 0
      · rw [c]; exact h1
      · have := w4 d'
        unfold zdr at this ⊢
        rw [if_neg c] at this ⊢
        exact this
    · by_cases c : d' = 0
      · rw [c]; exact h2
      · have := w5 d'
        unfold zdr at this ⊢
        rw [if_neg c] at this ⊢
        exact this
    · rcases h3 v hv with ⟨u, a1, a2⟩ | a1
      · rw [← a2]
        exact w6 u a1 w hw (a2.trans e9)
      · exact absurd e9.symm (a1 w hw)
  · rw [e] at h3 ⊢
    refine ⟨w1, w2, w3, fun d' => ?_, fun d' => ?_, fun v hv w hw e9 => ?_, w7, w8⟩
    · by_cases c : d' = 0
      · rw [c]; exact w4 0
      · unfold zdr
        rw [if_neg c]
        exact h1
    · by_cases c : d' = 0
      · rw [c]; exact w5 0
      · unfold zdr
        rw [if_neg c]
        exact h2
    · rcases h3 w hw with ⟨u, a1, a2⟩ | a1
      · exact w6 v hv u a1 (e9.trans a2.symm)
      · exact absurd e9 (a1 v hv)
theorem znm_lt {L : zB} {p : Nat} (h : p < L.length) : ∃ v, L[p]? = some v ∧ v ∈ L ∧ znm L p = v.1 ∧ zbc L p = v.2 := ⟨L[p], List.getElem?_eq_getElem h, List.getElem_mem h, znm_at (List.getElem?_eq_getElem h), zbc_at (List.getElem?_eq_getElem h)⟩
theorem zset_fst {L : zB} {p : Nat} {y : Nat} : (L.set p (znm L p, y)).map Prod.fst = L.map Prod.fst := by
  rw [List.map_set]
  refine List.ext_getElem? fun i => ?_
  rw [List.getElem?_set]
  by_cases c : p = i
  · rw [if_pos c, List.length_map, List.getElem?_map, ← c]
    by_cases c2 : p < L.length
    · rw [if_pos c2, List.getElem?_eq_getElem c2, znm_at (List.getElem?_eq_getElem c2)]
      rfl
    · rw [if_neg c2, List.getElem?_eq_none (Nat.le_of_not_lt c2)]
      rfl
  · rw [if_neg c]
theorem zset_in {L : zB} {p y : Nat} {v : Nat × Nat} (h : v ∈ L.set p (znm L p, y)) : ∃ w ∈ L, w.1 = v.1 := by
  have h1 : v.1 ∈ (L.set p (znm L p, y)).map Prod.fst := List.mem_map.mpr ⟨v, h, rfl⟩
  rw [zset_fst] at h1
  exact List.mem_map.mp h1
theorem zcE_wf {d p c : Int32} {σ : zS} (W : zwf σ) : zwf (zcE d p c σ).2.1 := by
  unfold zcE
  cases e : zps d 2 with
  | none => exact W
  | some d' =>
    cases e2 : zps p (zdr σ d').length with
    | none => simp only [e2]; exact W
    | some p' =>
      cases e3 : zps c 100 with
      | none => simp only [e2, e3]; exact W
      | some c' =>
        simp only [e2, e3]
        refine zwf_sd W (zps_some e).2 (by rw [zset_fst]; exact W.2.2.2.1 d') (fun v hv => ?_) (fun v hv => Or.inl (zset_in hv))
        obtain ⟨w, h1, h2⟩ := zset_in hv
        rw [← h2]
        exact W.2.2.2.2.1 d' w h1
theorem zer_in {L : zB} {p : Nat} {v : Nat × Nat} (h : v ∈ L.eraseIdx p) : v ∈ L := List.mem_of_mem_eraseIdx h
theorem zer_nod {L : zB} (h : (L.map Prod.fst).Nodup) (p : Nat) : ((L.eraseIdx p).map Prod.fst).Nodup := by
  exact List.Nodup.sublist ((List.eraseIdx_sublist L p).map Prod.fst) h
theorem zcR_wf {d p : Int32} {σ : zS} (W : zwf σ) : zwf (zcR d p σ).2.1 := by
  unfold zcR
  cases e : zps d 2 with
  | none => exact W
  | some d' =>
    cases e2 : zps p (zdr σ d').length with
    | none => simp only [e2]; exact W
    | some p' =>
      simp only [e2]
      exact zwf_sd W (zps_some e).2 (zer_nod (W.2.2.2.1 d') p') (fun v hv => W.2.2.2.2.1 d' v (zer_in hv)) (fun v hv => Or.inl ⟨v, zer_in hv, rfl⟩)
theorem zer_ne {L : zB} (h : (L.map Prod.fst).Nodup) {p : Nat} (hp : p < L.length) {v : Nat × Nat} (hv : v ∈ L.eraseIdx p) : v.1 ≠ znm L p := by
  intro e
  obtain ⟨u, a1, a2, a3, a4⟩ := znm_lt hp
  rw [a3] at e
  obtain ⟨i, hi⟩ := List.mem_iff_getElem?.mp hv
  rw [List.getElem?_eraseIdx] at hi
  by_cases c : i < p
  · rw [if_pos c] at hi
    have := znod_at h hi a1 e
    omega
  · rw [if_neg c] at hi
    have := znod_at h hi a1 e
    omega
theorem zcM_wf {d f t : Int32} {σ : zS} (W : zwf σ) : zwf (zcM d f t σ).2.1 := by
  unfold zcM
  cases e : zps d 2 with
  | none => exact W
  | some d' =>
    cases e2 : zps f (zdr σ d').length with
    | none => simp only [e2]; exact W
    | some f' =>
      cases e3 : zps t (zdr σ d').length with
      | none => simp only [e2, e3]; exact W
      | some t' =>
        simp only [e2, e3]
        have hf := (zps_some e2).2
        have ht := (zps_some e3).2
        obtain ⟨u, a1, a2, a3, a4⟩ := znm_lt hf
        have hl : ((zdr σ d').eraseIdx f').length = (zdr σ d').length - 1 := List.length_eraseIdx_of_lt hf
        have hk : t' ≤ ((zdr σ d').eraseIdx f').length := by omega
        have hin : ∀ v, v ∈ ((zdr σ d').eraseIdx f').insertIdx t' (znm (zdr σ d') f', zbc (zdr σ d') f') → ∃ w ∈ zdr σ d', w.1 = v.1 := by
          intro v hv
          rcases (zmem_ins hk).mp hv with h3 | h3
          · exact ⟨u, a2, by rw [h3]; exact a3.symm⟩
          · exact ⟨v, zer_in h3, rfl⟩
        refine zwf_sd W (zps_some e).2 (znod_ins hk (zer_nod (W.2.2.2.1 d') f') (fun v hv => zer_ne (W.2.2.2.1 d') hf hv)) (fun v hv => ?_) (fun v hv => Or.inl (hin v hv))
        obtain ⟨w, h1, h2⟩ := hin v hv
        rw [← h2]
        exact W.2.2.2.2.1 d' w h1
theorem zwf_up {σ : zS} (W : zwf σ) (hu : zus σ < 30) : zwf (zba σ, zd0 σ, zd1 σ, zus σ + 1, zpf σ, zac σ, zch σ) := by
  obtain ⟨w1, w2, w3, w4, w5, w6, w7, w8⟩ := W
  refine ⟨w1, Nat.le_succ_of_le w2, hu, fun d => ?_, fun d v hv => ?_, w6, w7, w8⟩
  · exact w4 d
  · exact Nat.lt_succ_of_lt (w5 d v hv)
theorem zcI_wf {d p c : Int32} {σ : zS} (W : zwf σ) : zwf (zcI d p c σ).2.1 := by
  unfold zcI
  cases e : zps d 2 with
  | none => exact W
  | some d' =>
    cases e2 : zps p ((zdr σ d').length + 1) with
    | none => simp only [e2]; exact W
    | some p' =>
      cases e3 : zps c 100 with
      | none => simp only [e2, e3]; exact W
      | some c' =>
        simp only [e2, e3]
        by_cases c9 : (zdr σ d').length = 15 ∨ zus σ = 30
        · rw [if_pos c9]; exact W
        · rw [if_neg c9]
          have hp := (zps_some e2).2
          have hk : p' ≤ (zdr σ d').length := by omega
          have w3 := W.2.2.1
          have w5 := W.2.2.2.2.1
          have hu : zus σ < 30 := by
            have : zus σ ≠ 30 := fun z => c9 (Or.inr z)
            omega
          refine zwf_sd (zwf_up W hu) (zps_some e).2 (znod_ins hk (W.2.2.2.1 d') (fun v hv => ?_)) (fun v hv => ?_) (fun v hv => ?_)
          · have := w5 d' v hv
            show v.1 ≠ zus σ
            omega
          · show v.1 < zus σ + 1
            rcases (zmem_ins hk).mp hv with h3 | h3
            · rw [h3]; exact Nat.lt_succ_self _
            · exact Nat.lt_succ_of_lt (w5 d' v h3)
          · rcases (zmem_ins hk).mp hv with h3 | h3
            · refine Or.inr fun w hw e9 => ?_
              have := w5 (1 - d') w hw
              rw [h3] at e9
              have e8 : w.1 = zus σ := e9
              omega
            · exact Or.inl ⟨v, h3, rfl⟩
/-- a call that changes the state -/
def zoC (r : Nat × zS × Int32) (A : zA) : Nat × zA × Int32 := if r.1 = 0 then (0, (r.2.1, (A.1 :: A.2.1).take 6, A.2.2), r.2.2) else (r.1, A, 0)
theorem zoC_wf {r : Nat × zS × Int32} {A : zA} (W : zwA A) (h : zwf r.2.1) : zwA (zoC r A).2.1 := by
  obtain ⟨w1, w2, w3, w4, w5⟩ := W
  unfold zoC
  by_cases c : r.1 = 0
  · rw [if_pos c]
    refine ⟨h, fun σ hs => ?_, ?_, w4, w5⟩
    · rcases List.mem_cons.mp (List.mem_of_mem_take hs) with e | e
      · rw [e]; exact w1
      · exact w2 σ e
    · show ((A.1 :: A.2.1).take 6).length ≤ 6
      rw [List.length_take]
      omega
  · rw [if_neg c]
    exact ⟨w1, w2, w3, w4, w5⟩
/-- how a call ends -/
def zRet (exs : List Nat) (k : Nat) (v : Value) (K : zQ) (h : zH) (n : Nat) : Prop := match k with
  | 0 => K 0 (some v) h n
  | k + 1 => K (exs.getD k 9 + 1) none h n

