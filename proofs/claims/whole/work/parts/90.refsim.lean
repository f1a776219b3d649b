/-! The reference: similarity -/
theorem zfl_cons {α : Type} [DecidableEq α] {a : α} {A : List α} (ha : a ∉ A) : ∀ B : List α, B.Nodup → (B.filter (fun x => decide (x ∈ a :: A))).length = (B.filter (fun x => decide (x ∈ A))).length + (if a ∈ B then 1 else 0) := by
  intro B
  induction B with
  | nil => intro _; simp
  | cons b B ih =>
    intro hB
    obtain ⟨h1, h2⟩ := List.nodup_cons.mp hB
    have k := ih h2
    by_cases e : b = a
    · subst e
      rw [if_neg h1] at k
      rw [List.filter_cons_of_pos (by simp), List.filter_cons_of_neg (by simpa using ha), if_pos (List.mem_cons_self), List.length_cons, k]
    · have e2 : (a ∈ b :: B) ↔ a ∈ B := by
        rw [List.mem_cons]
        exact ⟨fun z => z.elim (fun y => absurd y.symm e) id, Or.inr⟩
      by_cases c : b ∈ A
      · rw [List.filter_cons_of_pos (by simp [c]), List.filter_cons_of_pos (by simp [c]), List.length_cons, List.length_cons, k]
        by_cases c2 : a ∈ B
        · rw [if_pos c2, if_pos (e2.mpr c2)]
        · rw [if_neg c2, if_neg (fun z => c2 (e2.mp z))]
      · rw [List.filter_cons_of_neg (by simp [c, e]), List.filter_cons_of_neg (by simp [c]), k]
        by_cases c2 : a ∈ B
        · rw [if_pos c2, if_pos (e2.mpr c2)]
        · rw [if_neg c2, if_neg (fun z => c2 (e2.mp z))]
theorem zfl_sym {α : Type} [DecidableEq α] {B : List α} (hB : B.Nodup) : ∀ A : List α, A.Nodup → (A.filter (fun x => decide (x ∈ B))).length = (B.filter (fun x => decide (x ∈ A))).length := by
  intro A
  induction A with
  | nil =>
    intro _
    rw [show B.filter (fun x => decide (x ∈ ([] : List α))) = [] from List.filter_eq_nil_iff.mpr (fun x _ => by simp)]
    rfl
  | cons a A ih =>
    intro hA
    obtain ⟨h1, h2⟩ := List.nodup_cons.mp hA
    rw [zfl_cons h1 B hB, ← ih h2]
    by_cases c : a ∈ B
    · rw [List.filter_cons_of_pos (by simp [c]), if_pos c, List.length_cons]
    · rw [List.filter_cons_of_neg (by simp [c]), if_neg c]
      rfl
theorem zfl_map {A : zB} {B : List Nat} : (A.filter (fun v => decide (v.1 ∈ B))).length = ((A.map Prod.fst).filter (fun x => decide (x ∈ B))).length := by
  rw [List.filter_map, List.length_map]
  rfl
theorem zix_mem {M : zB} (hn : (M.map Prod.fst).Nodup) (v : Nat × Nat) : (∃ j w, M[j]? = some w ∧ zix M v.1 = some j ∧ w.1 = v.1 ∧ (w.2 = v.2 ↔ v ∈ M) ∧ v.1 ∈ M.map Prod.fst) ∨ (zix M v.1 = none ∧ v.1 ∉ M.map Prod.fst ∧ v ∉ M) := by
  rcases zix_cs M v.1 with ⟨j, w, -, a2, a3, a4, -, -⟩ | ⟨a1, a4, -, -⟩
  · refine Or.inl ⟨j, w, a2, a4, a3, ⟨fun e => ?_, fun hv => ?_⟩, List.mem_map.mpr ⟨w, List.mem_of_getElem? a2, a3⟩⟩
    · have : v = w := Prod.ext a3.symm e.symm
      rw [this]
      exact List.mem_of_getElem? a2
    · obtain ⟨i, hi⟩ := List.mem_iff_getElem?.mp hv
      have := znod_at hn a2 hi a3
      rw [this, hi] at a2
      have e7 : v = w := Option.some.inj a2
      rw [e7]
  · refine Or.inr ⟨a4, fun z => ?_, fun z => a1 v z rfl⟩
    obtain ⟨w, w1, w2⟩ := List.mem_map.mp z
    exact a1 w w1 w2
theorem zsh_f {L : zB} {v : Nat × Nat} : zsh L false v = decide (v.1 ∈ L.map Prod.fst) := by
  unfold zsh
  by_cases c : ∃ w ∈ L, w.1 = v.1
  · obtain ⟨j, hj⟩ := zfd_ex c
    obtain ⟨⟨w, w1, w2⟩, -⟩ := id hj
    rw [zfd_find hj w1]
    obtain ⟨u, u1, u2⟩ := c
    exact (decide_eq_true (List.mem_map.mpr ⟨u, u1, u2⟩)).symm
  · rw [zfd_none (fun w hw e => c ⟨w, hw, e⟩)]
    refine (decide_eq_false fun z => ?_).symm
    obtain ⟨w, w1, w2⟩ := List.mem_map.mp z
    exact c ⟨w, w1, w2⟩
theorem zsh_t {L : zB} (hn : (L.map Prod.fst).Nodup) {v : Nat × Nat} : zsh L true v = decide (v ∈ L) := by
  unfold zsh
  by_cases c : ∃ w ∈ L, w.1 = v.1
  · obtain ⟨j, hj⟩ := zfd_ex c
    obtain ⟨⟨w, w1, w2⟩, -⟩ := id hj
    rw [zfd_find hj w1]
    show (!true || w.2 == v.2) = decide (v ∈ L)
    by_cases e : w.2 = v.2
    · have e9 : w = v := Prod.ext w2 e
      rw [decide_eq_true (show v ∈ L by rw [← e9]; exact List.mem_of_getElem? w1), e]
      simp
    · rw [decide_eq_false]
      · simp [e]
      · intro hv
        obtain ⟨i, hi⟩ := List.mem_iff_getElem?.mp hv
        have := znod_at hn w1 hi w2
        rw [this, hi] at w1
        have e7 : v = w := Option.some.inj w1
        exact e (by rw [e7])
  · rw [zfd_none (fun w hw e => c ⟨w, hw, e⟩)]
    exact (decide_eq_false fun z => c ⟨v, z, rfl⟩).symm
theorem znod_of {M : zB} (h : (M.map Prod.fst).Nodup) : M.Nodup := by
  induction M with
  | nil => exact List.nodup_nil
  | cons v M ih =>
    obtain ⟨h1, h2⟩ := List.nodup_cons.mp (show (v.1 :: M.map Prod.fst).Nodup from h)
    exact List.nodup_cons.mpr ⟨fun z => h1 (List.mem_map.mpr ⟨v, z, rfl⟩), ih h2⟩
theorem zsT_L {σ : zS} {d : Nat} (hM : ((zmer σ).map Prod.fst).Nodup) (hL : ((zdr σ d).map Prod.fst).Nodup) : zsT σ d = ((zdr σ d).filter (fun v => decide (v ∈ zmer σ))).length := by
  unfold zsT
  rw [show zsh (zdr σ d) true = fun v => decide (v ∈ zdr σ d) from funext fun v => zsh_t hL]
  have e := zfl_sym (znod_of hL) _ (znod_of hM)
  exact (congrArg List.length (List.filter_congr (fun x _ => decide_eq_decide.mpr Iff.rfl))).trans (e.trans (congrArg List.length (List.filter_congr (fun x _ => decide_eq_decide.mpr Iff.rfl))))
theorem zsA_L {σ : zS} {d : Nat} (hM : ((zmer σ).map Prod.fst).Nodup) (hL : ((zdr σ d).map Prod.fst).Nodup) : zsA σ d = (zmer σ).length + ((zdr σ d).filter (fun v => !decide (v.1 ∈ (zmer σ).map Prod.fst))).length := by
  unfold zsA
  rw [show zsh (zdr σ d) false = fun v => decide (v.1 ∈ (zdr σ d).map Prod.fst) from funext fun v => zsh_f, zfl_map, zfl_sym hL _ hM, ← zfl_map]
  have h1 : ∀ L : zB, (L.filter (fun v => decide (v.1 ∈ (zmer σ).map Prod.fst))).length + (L.filter (fun v => !decide (v.1 ∈ (zmer σ).map Prod.fst))).length = L.length := by
    intro L
    induction L with
    | nil => rfl
    | cons v L ih =>
      by_cases c : v.1 ∈ (zmer σ).map Prod.fst
      · rw [List.filter_cons_of_pos (by simpa using c), List.filter_cons_of_neg (by simpa using c), List.length_cons, List.length_cons]
        omega
      · rw [List.filter_cons_of_neg (by simpa using c), List.filter_cons_of_pos (by simpa using c), List.length_cons, List.length_cons]
        omega
  have := h1 (zdr σ d)
  omega
def zgkD (r : Option UInt64) : Nat := match r with
  | some _ => 0
  | none => 1
def zgvD (r : Option UInt64) : UInt64 := match r with
  | some v => v
  | none => FP.dconst0
set_option maxRecDepth 100000 in
theorem S_X7_similarity {C : zK} (hC : zCld 215 zTT C) {h : zH} {n : Nat} {K : zQ} {r th : Nat} {A : zA} (H : zY h r A th) (W : zwA A) {d : Int32} (H1 : ∀ h', zY h' r A (zgkD (zgD d A.1)) → zOff r (r + 12) h h' → K 0 (some (.double (zgvD (zgD d A.1)))) h' n) : C 177 [.ref r, .int d] h n K := by
  obtain ⟨c, H, -⟩ := H
  unfold zgD at H1
  refine zd_X7_similarity hC rfl fun P hgo hF => ?_
  refine hgo [35] 60 _ _ _ _ _ _ _ ?_
  conv => whnf
  refine S_X7_isDraft hC (fun d' e => ?_) (fun e => ?_)
  · obtain ⟨a1, a2⟩ := zps_some e
    rw [e] at H1
    conv => whnf
    refine ⟨fun z => absurd z (by decide), fun _ => ?_⟩
    conv => whnf
    refine ⟨_, H.ob, ?_⟩
    refine S_yref hC H (k := 0) (by decide) (fun z => absurd z (by decide)) (fun _ h2 c2 H2 e2 o2 => ?_)
    conv => whnf
    refine ⟨fun _ => ?_, fun z => absurd rfl z⟩
    conv => whnf
    refine ⟨_, H2.ob, ?_⟩
    refine S_ymerges hC H2 W.1 (fun h3 c3 H3 M3 Q3 g3 o3 => ?_)
    have G : K 0 (some (.double (zsD (zsT A.1 d') (zsA A.1 d')))) h3 n := H1 h3 ⟨c3, H3, (g3 5 (by decide) (by decide)).trans e2⟩ ((o2.wd (by omega) (by omega)).tr o3)
    have hM := M3.2.2.2.2.1
    have hml : (zmer A.1).length ≤ 30 := M3.2.2.1
    have hm2 := M3.2.2.2.1
    have hL := W.1.2.2.2.1 d'
    have hln := H3.1.ln d'
    have hlt := H3.1.lt d'
    rw [zsT_L hM hL, zsA_L hM hL] at G
    obtain ⟨-, -, -, -, -, mf, nf, m6, m7, m8⟩ := id M3
    have b1 := H3.ob
    have loop : ∀ e k, k + e = (zdr A.1 d').length → P 35 [some (.ref r), some (.int d), some (.int (nI (((zdr A.1 d').take k).filter (fun v => decide (v ∈ zmer A.1))).length)), some (.int (nI ((zmer A.1).length + (((zdr A.1 d').take k).filter (fun v => !decide (v.1 ∈ (zmer A.1).map Prod.fst))).length))), some (.int (nI k)), none] [] h3 n 0 0 := by
      intro e
      induction e with
      | zero =>
        intro k hk
        rw [List.take_of_length_le (show (zdr A.1 d').length ≤ k by omega)]
        have ht : ((zdr A.1 d').filter (fun v => decide (v ∈ zmer A.1))).length ≤ (zdr A.1 d').length := List.length_filter_le _ _
        have hf : ((zdr A.1 d').filter (fun v => !decide (v.1 ∈ (zmer A.1).map Prod.fst))).length ≤ (zdr A.1 d').length := List.length_filter_le _ _
        unfold zsD at G
        generalize ((zdr A.1 d').filter (fun v => decide (v ∈ zmer A.1))).length = t at G ht ⊢
        generalize ha : (zmer A.1).length + ((zdr A.1 d').filter (fun v => !decide (v.1 ∈ (zmer A.1).map Prod.fst))).length = a at G ⊢
        refine hgo [35] 60 _ _ _ _ _ _ _ ?_
        conv => whnf
        refine ⟨_, b1, ?_⟩
        rw [a1]
        refine S_X7_sizeOf hC H3.1 a2 ?_
        conv => whnf
        refine ⟨fun _ => ?_, fun q => absurd (nI_le (show (zdr A.1 d').length ≤ k by omega) (show k < 2 ^ 31 by omega)) q⟩
        conv => whnf
        refine ⟨fun q => ?_, fun q => ?_⟩
        · have ha0 : ¬ a = 0 := fun z => q (by rw [z]; rfl)
          rw [if_neg ha0] at G
          conv => whnf
          refine ⟨zdv (by omega) (by omega) (by omega), ?_⟩
          exact G
        · have ha0 : a = 0 := nI_inj (b := 0) (by omega) (by decide) q
          rw [if_pos ha0] at G
          conv => whnf
          exact G
      | succ e ih =>
        intro k hk
        obtain ⟨v, hv⟩ : ∃ v, (zdr A.1 d')[k]? = some v := ⟨(zdr A.1 d')[k], List.getElem?_eq_getElem (by omega)⟩
        have hvb := hlt v (List.mem_of_getElem? hv)
        have k9 := ih (k + 1) (by omega)
        rw [List.take_add_one, hv, ← zinc (j := k)] at k9
        rw [show (some v).toList = [v] from rfl, List.filter_append, List.filter_append, List.length_append, List.length_append] at k9
        refine hgo [35] 60 _ _ _ _ _ _ _ ?_
        conv => whnf
        refine ⟨_, b1, ?_⟩
        rw [a1]
        refine S_X7_sizeOf hC H3.1 a2 ?_
        conv => whnf
        refine ⟨fun q => absurd q (nI_ge (show k < (zdr A.1 d').length by omega) (show (zdr A.1 d').length < 2 ^ 31 by omega)), fun _ => ?_⟩
        conv => whnf
        refine ⟨_, b1, ?_⟩
        refine S_X7_numberAt hC H3.1 a2 hv ?_
        conv => whnf
        refine ⟨_, b1, ?_⟩
        refine S_X7_mergedAt hC M3 hvb.1 ?_
        unfold zmA
        rw [← a1]
        rcases zix_mem hM v with ⟨j, w, c1, c2, c3, c4, c5⟩ | ⟨c2, c3, c4⟩
        · have hj := (List.getElem?_eq_some_iff.mp c1).1
          have hwb := hm2 w (List.mem_of_getElem? c1)
          rw [c2]
          have k8 : (List.filter (fun v => !decide (v.1 ∈ (zmer A.1).map Prod.fst)) [v]).length = 0 := by
            rw [List.filter_cons_of_neg (by simpa using c5)]
            rfl
          rw [k8] at k9
          conv => whnf
          refine ⟨fun z => absurd z (nI_ne_m1 (by omega)), fun _ => ?_⟩
          conv => whnf
          refine ⟨_, b1, _, rfl, ?_⟩
          conv => whnf
          refine ⟨_, _, m7, vp_in_nI (show j < 30 by omega) (by decide), ?_⟩
          rw [nI_clamp (show j < 2 ^ 31 by omega), (m8 j w c1).2]
          conv => whnf
          refine ⟨_, b1, ?_⟩
          rw [a1]
          refine S_X7_insideAt hC H3.1 a2 hv ?_
          rw [← a1]
          conv => whnf
          refine ⟨fun q => ?_, fun q => ?_⟩
          · have hne : ¬ v ∈ zmer A.1 := fun z => q (by rw [c4.mpr z])
            have k7 : (List.filter (fun v => decide (v ∈ zmer A.1)) [v]).length = 0 := by
              rw [List.filter_cons_of_neg (by simpa using hne)]
              rfl
            rw [k7] at k9
            conv => whnf
            refine ⟨fun z => ?_, fun z => absurd z (nI_ne_m1 (by omega))⟩
            rw [Int32.add_zero]
            conv => whnf
            rw [Int32.add_zero]
            refine hF _ _ _ _ _ _ _ _ ?_ k9
            repeat (first | exact zf_0 | refine zf_s ?_ | refine zf_n ?_)
          · have hyes : v ∈ zmer A.1 := c4.mp (nI_inj (by omega) (by omega) q)
            have k7 : (List.filter (fun v => decide (v ∈ zmer A.1)) [v]).length = 1 := by
              rw [List.filter_cons_of_pos (by simpa using hyes)]
              rfl
            rw [k7] at k9
            conv => whnf
            refine ⟨fun z => ?_, fun z => absurd z (nI_ne_m1 (by omega))⟩
            rw [nI_1]
            conv => whnf
            rw [Int32.add_zero]
            refine hF _ _ _ _ _ _ _ _ ?_ k9
            repeat (first | exact zf_0 | refine zf_s ?_ | refine zf_n ?_)
        · rw [c2]
          have k8 : (List.filter (fun v => !decide (v.1 ∈ (zmer A.1).map Prod.fst)) [v]).length = 1 := by
            rw [List.filter_cons_of_pos (by simpa using c3)]
            rfl
          have k7 : (List.filter (fun v => decide (v ∈ zmer A.1)) [v]).length = 0 := by
            rw [List.filter_cons_of_neg (by simpa using c4)]
            rfl
          rw [k8, k7, ← Nat.add_assoc] at k9
          conv => whnf
          refine ⟨fun _ => ?_, fun z => absurd rfl z⟩
          conv => whnf
          refine ⟨fun z => absurd rfl z, fun _ => ?_⟩
          rw [Int32.add_zero]
          conv => whnf
          rw [nI_1]
          refine hF _ _ _ _ _ _ _ _ ?_ k9
          repeat (first | exact zf_0 | refine zf_s ?_ | refine zf_n ?_)
    have k9 := loop (zdr A.1 d').length 0 (by omega)
    conv => whnf
    refine ⟨_, b1, _, rfl, ?_⟩
    conv => whnf
    rw [M3.2.1]
    exact k9
  · rw [e] at H1
    conv => whnf
    refine ⟨fun _ => ?_, fun z => absurd rfl z⟩
    conv => whnf
    refine ⟨_, H.ob, ?_⟩
    refine S_yref hC H (k := 1) (by decide) (fun _ h2 c2 H2 e2 o2 => ?_) (fun z => absurd z (by decide))
    conv => whnf
    refine ⟨fun z => absurd z (by decide), fun _ => ?_⟩
    conv => whnf
    exact H1 h2 ⟨c2, H2, e2⟩ (o2.wd (by omega) (by omega))

