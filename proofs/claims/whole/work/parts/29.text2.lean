/-! CommandText: take, findError, isComplete -/
set_option maxRecDepth 100000 in
theorem S_X1_takeDraft {C : zK} (hC : zCld 215 zTT C) {h : zH} {n : Nat} {K : zQ} {t : Nat} {T : List Int32} {q : zq} (H : zTx h t T q) {c : Int32} (H1 : ∀ h', zTx h' t T (ztkD q c).2 → zOff t (t + 2) h h' → K 0 (some (.int (ztkD q c).1)) h' n) : C 25 [.ref t, .int c] h n K := by
  obtain ⟨h1, -⟩ := id H
  refine zd_X1_takeDraft hC rfl fun P hgo hF => ?_
  have yes : (c = 48 ∨ c = 49) → P 14 [some (.ref t), some (.int c)] [] h n 0 0 := fun hc => by
    refine hgo [] 30 _ _ _ _ _ _ _ ?_
    conv => whnf
    refine ⟨_, h1, Nat.le_of_ble_eq_true rfl, ⟨rfl, rfl⟩, ?_⟩
    conv => whnf
    have e : ztkD q c = (1, (c - 48, q.2.1, q.2.2.1, q.2.2.2.1, q.2.2.2.2)) := by unfold ztkD; rw [if_pos hc]
    rw [e] at H1
    exact ⟨Or.inr rfl, H1 _ (H.set (q' := (c - 48, q.2.1, q.2.2.1, q.2.2.2.1, q.2.2.2.2))) (zOff.up (Nat.le_refl t) (by omega))⟩
  refine hgo [14] 30 _ _ _ _ _ _ _ ?_
  conv => whnf
  refine ⟨fun k => ?_, fun k => ?_⟩
  · conv => whnf
    exact yes (Or.inl k)
  · conv => whnf
    refine ⟨fun k2 => ?_, fun k2 => ?_⟩
    · conv => whnf
      exact yes (Or.inr k2)
    · conv => whnf
      have e : ztkD q c = (0, q) := by unfold ztkD; rw [if_neg (fun z => z.elim k k2)]
      rw [e] at H1
      exact ⟨Or.inl rfl, H1 h H zOff.rf⟩
set_option maxRecDepth 100000 in
theorem S_X1_takeKind {C : zK} (hC : zCld 215 zTT C) {h : zH} {n : Nat} {K : zQ} {t : Nat} {T : List Int32} {q : zq} (H : zTx h t T q) {c : Int32} (H1 : ∀ h', zTx h' t T (ztkK q c).2 → zOff t (t + 2) h h' → K 0 (some (.int (ztkK q c).1)) h' n) : C 26 [.ref t, .int c] h n K := by
  obtain ⟨h1, -⟩ := id H
  refine zd_X1_takeKind hC rfl fun P hgo hF => ?_
  have yes : (c = 101 ∨ c = 109 ∨ c = 105 ∨ c = 114) → P 26 [some (.ref t), some (.int c)] [] h n 0 0 := fun hc => by
    refine hgo [] 30 _ _ _ _ _ _ _ ?_
    conv => whnf
    refine ⟨_, h1, Nat.le_of_ble_eq_true rfl, ⟨rfl, rfl⟩, ?_⟩
    conv => whnf
    have e : ztkK q c = (1, (q.1, c, q.2.2.1, q.2.2.2.1, q.2.2.2.2)) := by unfold ztkK; rw [if_pos hc]
    rw [e] at H1
    exact ⟨Or.inr rfl, H1 _ (H.set (q' := (q.1, c, q.2.2.1, q.2.2.2.1, q.2.2.2.2))) (zOff.up (Nat.le_refl t) (by omega))⟩
  refine hgo [26] 30 _ _ _ _ _ _ _ ?_
  conv => whnf
  refine ⟨fun k => ?_, fun k => ?_⟩
  · conv => whnf
    exact yes (Or.inl k)
  · conv => whnf
    refine ⟨fun k2 => ?_, fun k2 => ?_⟩
    · conv => whnf
      exact yes (Or.inr (Or.inl k2))
    · conv => whnf
      refine ⟨fun k3 => ?_, fun k3 => ?_⟩
      · conv => whnf
        exact yes (Or.inr (Or.inr (Or.inl k3)))
      · conv => whnf
        refine ⟨fun k4 => ?_, fun k4 => ?_⟩
        · conv => whnf
          exact yes (Or.inr (Or.inr (Or.inr k4)))
        · conv => whnf
          have e : ztkK q c = (0, q) := by unfold ztkK; rw [if_neg (fun z => z.elim k (fun z => z.elim k2 (fun z => z.elim k3 k4)))]
          rw [e] at H1
          exact ⟨Or.inl rfl, H1 h H zOff.rf⟩
set_option maxRecDepth 100000 in
theorem S_X1_takeFirst {C : zK} (hC : zCld 215 zTT C) {h : zH} {n : Nat} {K : zQ} {t : Nat} {T : List Int32} {q : zq} (H : zTx h t T q) {c : Int32} (H1 : ∀ h', zTx h' t T (ztk1 q c).2 → zOff t (t + 2) h h' → K 0 (some (.int (ztk1 q c).1)) h' n) : C 27 [.ref t, .int c] h n K := by
  obtain ⟨h1, h23⟩ := id H
  refine zd_X1_takeFirst hC rfl fun P hgo hF => ?_
  have sep : (¬ q.2.2.1 = -1) → (¬ q.2.1 = 114) → c = (if q.2.1 = 109 then 62 else 61) → P 37 [some (.ref t), some (.int c), none] [] h n 0 0 := fun a1 a2 a3 => by
    refine hgo [] 30 _ _ _ _ _ _ _ ?_
    conv => whnf
    refine ⟨_, h1, Nat.le_of_ble_eq_true rfl, ⟨by decide, by decide⟩, ?_⟩
    conv => whnf
    have e : ztk1 q c = (1, (q.1, q.2.1, q.2.2.1, 1, q.2.2.2.2)) := by unfold ztk1; rw [if_pos ⟨a1, a2, a3⟩]
    rw [e] at H1
    exact ⟨Or.inr rfl, H1 _ (H.set (q' := (q.1, q.2.1, q.2.2.1, 1, q.2.2.2.2))) (zOff.up (Nat.le_refl t) (by omega))⟩
  have num : (¬ ((¬ q.2.2.1 = -1) ∧ (¬ q.2.1 = 114) ∧ c = (if q.2.1 = 109 then 62 else 61))) → P 44 [some (.ref t), some (.int c), none] [] h n 0 0 := fun a => by
    have e : ztk1 q c = if zwd q.2.2.1 c 15 = -1 then (0, q) else (1, (q.1, q.2.1, zwd q.2.2.1 c 15, q.2.2.2.1, q.2.2.2.2)) := by unfold ztk1; rw [if_neg a]
    rw [e] at H1
    refine hgo [] 60 _ _ _ _ _ _ _ ?_
    conv => whnf
    refine ⟨_, h1, _, rfl, ?_⟩
    conv => whnf
    refine S_X1_withDigit hC ?_
    conv => whnf
    refine ⟨fun k => ?_, fun k => ?_⟩
    · rw [if_neg k] at H1
      conv => whnf
      refine ⟨_, h1, Nat.le_of_ble_eq_true rfl, ⟨rfl, rfl⟩, ?_⟩
      conv => whnf
      refine ⟨fun k2 => absurd k2 k, fun _ => ?_⟩
      conv => whnf
      exact ⟨Or.inr rfl, H1 _ (H.set (q' := (q.1, q.2.1, zwd q.2.2.1 c 15, q.2.2.2.1, q.2.2.2.2))) (zOff.up (Nat.le_refl t) (by omega))⟩
    · rw [if_pos k] at H1
      conv => whnf
      refine ⟨_, h1, _, rfl, ?_⟩
      conv => whnf
      refine ⟨_, h1, Nat.le_of_ble_eq_true rfl, ⟨rfl, rfl⟩, ?_⟩
      conv => whnf
      refine ⟨fun _ => ?_, fun k2 => absurd k k2⟩
      conv => whnf
      exact ⟨Or.inl rfl, H1 _ (H.set (q' := q)) (zOff.up (Nat.le_refl t) (by omega))⟩
  refine hgo [37, 44] 60 _ _ _ _ _ _ _ ?_
  conv => whnf
  refine ⟨_, h1, _, rfl, ?_⟩
  conv => whnf
  refine ⟨fun k => ?_, fun k => ?_⟩
  · conv => whnf
    exact num fun z => z.1 k
  · conv => whnf
    refine ⟨_, h1, _, rfl, ?_⟩
    conv => whnf
    refine ⟨fun k2 => ?_, fun k2 => ?_⟩
    · conv => whnf
      exact num fun z => z.2.1 k2
    · conv => whnf
      refine ⟨_, h1, _, rfl, ?_⟩
      conv => whnf
      refine ⟨fun k3 => ?_, fun k3 => ?_⟩
      · conv => whnf
        refine ⟨fun k4 => ?_, fun k4 => ?_⟩
        · conv => whnf
          exact num fun z => k4 (by rw [z.2.2, if_neg k3])
        · conv => whnf
          exact sep k k2 (by rw [k4, if_neg k3])
      · conv => whnf
        refine ⟨fun k4 => ?_, fun k4 => ?_⟩
        · conv => whnf
          exact num fun z => k4 (by rw [z.2.2, if_pos k3])
        · conv => whnf
          exact sep k k2 (by rw [k4, if_pos k3])
set_option maxRecDepth 100000 in
theorem S_X1_takeSecond {C : zK} (hC : zCld 215 zTT C) {h : zH} {n : Nat} {K : zQ} {t : Nat} {T : List Int32} {q : zq} (H : zTx h t T q) {c : Int32} (H1 : ∀ h', zTx h' t T (ztk2 q c).2 → zOff t (t + 2) h h' → K 0 (some (.int (ztk2 q c).1)) h' n) : C 28 [.ref t, .int c] h n K := by
  obtain ⟨h1, h23⟩ := id H
  refine zd_X1_takeSecond hC rfl fun P hgo hF => ?_
  have num : ∀ lim : Int32, lim = (if q.2.1 = 109 then 15 else 99) → P 21 [some (.ref t), some (.int c), none] [.int lim, .int c, .int q.2.2.2.2, .ref t] h n 0 0 → P 21 [some (.ref t), some (.int c), none] [.int lim, .int c, .int q.2.2.2.2, .ref t] h n 0 0 := fun _ _ z => z
  unfold ztk2 at H1
  have go : ∀ lim : Int32, lim = (if q.2.1 = 109 then 15 else 99) → P 21 [some (.ref t), some (.int c), none] [.int lim, .int c, .int q.2.2.2.2] h n 0 0 := fun lim hlim => by
    rw [← hlim] at H1
    refine hgo [] 60 _ _ _ _ _ _ _ ?_
    conv => whnf
    refine S_X1_withDigit hC ?_
    conv => whnf
    refine ⟨fun k => ?_, fun k => ?_⟩
    · rw [if_neg k] at H1
      conv => whnf
      refine ⟨_, h1, Nat.le_of_ble_eq_true rfl, ⟨rfl, rfl⟩, ?_⟩
      conv => whnf
      refine ⟨fun k2 => absurd k2 k, fun _ => ?_⟩
      conv => whnf
      exact ⟨Or.inr rfl, H1 _ (H.set (q' := (q.1, q.2.1, q.2.2.1, q.2.2.2.1, zwd q.2.2.2.2 c lim))) (zOff.up (Nat.le_refl t) (by omega))⟩
    · rw [if_pos k] at H1
      conv => whnf
      refine ⟨_, h1, _, rfl, ?_⟩
      conv => whnf
      refine ⟨_, h1, Nat.le_of_ble_eq_true rfl, ⟨rfl, rfl⟩, ?_⟩
      conv => whnf
      refine ⟨fun _ => ?_, fun k2 => absurd k k2⟩
      conv => whnf
      exact ⟨Or.inl rfl, H1 _ (H.set (q' := q)) (zOff.up (Nat.le_refl t) (by omega))⟩
  refine hgo [21] 60 _ _ _ _ _ _ _ ?_
  conv => whnf
  refine ⟨_, h1, _, rfl, ?_⟩
  conv => whnf
  refine ⟨_, h1, _, rfl, ?_⟩
  conv => whnf
  refine ⟨fun k => ?_, fun k => ?_⟩
  · conv => whnf
    exact go 99 (by rw [if_neg k])
  · conv => whnf
    exact go 15 (by rw [if_pos k])
set_option maxRecDepth 100000 in
theorem S_X1_take {C : zK} (hC : zCld 215 zTT C) {h : zH} {n : Nat} {K : zQ} {t : Nat} {T : List Int32} {q : zq} (H : zTx h t T q) {c : Int32} (H1 : ∀ h', zTx h' t T (ztk q c).2 → zOff t (t + 2) h h' → K 0 (some (.int (ztk q c).1)) h' n) : C 24 [.ref t, .int c] h n K := by
  obtain ⟨h1, h23⟩ := id H
  refine zd_X1_take hC rfl fun P hgo hF => ?_
  have zor : ∀ (x : Int32), x = 0 ∨ x = 1 → (x = 0 ∨ x = 1) := fun _ z => z
  have r1 : (ztk1 q c).1 = 0 ∨ (ztk1 q c).1 = 1 := by
    unfold ztk1
    repeat' split
    all_goals first | exact Or.inl rfl | exact Or.inr rfl
  have r2 : (ztk2 q c).1 = 0 ∨ (ztk2 q c).1 = 1 := by
    unfold ztk2
    repeat' split
    all_goals first | exact Or.inl rfl | exact Or.inr rfl
  have rD : (ztkD q c).1 = 0 ∨ (ztkD q c).1 = 1 := by
    unfold ztkD
    repeat' split
    all_goals first | exact Or.inl rfl | exact Or.inr rfl
  have rK : (ztkK q c).1 = 0 ∨ (ztkK q c).1 = 1 := by
    unfold ztkK
    repeat' split
    all_goals first | exact Or.inl rfl | exact Or.inr rfl
  have rest : ¬ (c = 59 ∧ zwhole q) → P 19 [some (.ref t), some (.int c)] [] h n 0 0 := fun hn => by
    have e : ztk q c = if q.1 = -1 then ztkD q c else if q.2.1 = -1 then ztkK q c else if q.2.2.2.1 = 0 then ztk1 q c else ztk2 q c := by unfold ztk; rw [if_neg hn]
    rw [e] at H1
    refine hgo [] 60 _ _ _ _ _ _ _ ?_
    conv => whnf
    refine ⟨_, h1, _, rfl, ?_⟩
    conv => whnf
    refine ⟨fun k => ?_, fun k => ?_⟩
    · rw [if_neg k] at H1
      conv => whnf
      refine ⟨_, h1, _, rfl, ?_⟩
      conv => whnf
      refine ⟨fun k2 => ?_, fun k2 => ?_⟩
      · rw [if_neg k2] at H1
        conv => whnf
        refine ⟨_, h1, _, rfl, ?_⟩
        conv => whnf
        refine ⟨fun k3 => ?_, fun k3 => ?_⟩
        · rw [if_pos k3] at H1
          conv => whnf
          refine ⟨_, h1, ?_⟩
          conv => whnf
          refine S_X1_takeFirst hC H fun h' H' ho' => ?_
          conv => whnf
          exact ⟨r1, H1 h' H' ho'⟩
        · rw [if_neg k3] at H1
          conv => whnf
          refine ⟨_, h1, ?_⟩
          conv => whnf
          refine S_X1_takeSecond hC H fun h' H' ho' => ?_
          conv => whnf
          exact ⟨r2, H1 h' H' ho'⟩
      · rw [if_pos k2] at H1
        conv => whnf
        refine ⟨_, h1, ?_⟩
        conv => whnf
        refine S_X1_takeKind hC H fun h' H' ho' => ?_
        conv => whnf
        exact ⟨rK, H1 h' H' ho'⟩
    · rw [if_pos k] at H1
      conv => whnf
      refine ⟨_, h1, ?_⟩
      conv => whnf
      refine S_X1_takeDraft hC H fun h' H' ho' => ?_
      conv => whnf
      exact ⟨rD, H1 h' H' ho'⟩
  refine hgo [19] 60 _ _ _ _ _ _ _ ?_
  conv => whnf
  refine ⟨fun k => ?_, fun k => ?_⟩
  · conv => whnf
    exact rest fun z => k z.1
  · conv => whnf
    refine ⟨_, h1, ?_⟩
    conv => whnf
    refine S_X1_commandIsWhole hC H (fun hw => ?_) (fun hw => ?_)
    · conv => whnf
      refine ⟨fun k2 => absurd k2 (by decide), fun _ => ?_⟩
      conv => whnf
      refine ⟨_, h1, ?_⟩
      conv => whnf
      refine S_X1_beginReading hC H fun h' H' ho' => ?_
      conv => whnf
      have e : ztk q c = (1, zq0) := by unfold ztk; rw [if_pos ⟨k, hw⟩]
      rw [e] at H1
      exact ⟨Or.inr rfl, H1 h' H' ho'⟩
    · conv => whnf
      refine ⟨fun _ => ?_, fun k2 => absurd rfl k2⟩
      conv => whnf
      exact rest fun z => hw z.2
/-- the first character that no command text goes on with, read from q on; and what has been read then -/
noncomputable def zfe (q : zq) : List Int32 → Nat × zq
  | [] => (0, q)
  | c :: T => if (ztk q c).1 = 0 then (0, (ztk q c).2) else ((zfe (ztk q c).2 T).1 + 1, (zfe (ztk q c).2 T).2)
theorem zfe_0 {q : zq} {c : Int32} {T : List Int32} (h : (ztk q c).1 = 0) : zfe q (c :: T) = (0, (ztk q c).2) := if_pos h
theorem zfe_1 {q : zq} {c : Int32} {T : List Int32} (h : ¬ (ztk q c).1 = 0) : zfe q (c :: T) = ((zfe (ztk q c).2 T).1 + 1, (zfe (ztk q c).2 T).2) := if_neg h
theorem zfe_le (T : List Int32) : ∀ q, (zfe q T).1 ≤ T.length := by
  induction T with
  | nil => intro q; exact Nat.le_refl 0
  | cons c T ih =>
    intro q
    unfold zfe
    split
    · exact Nat.zero_le _
    · exact Nat.succ_le_succ (ih _)
set_option maxRecDepth 100000 in
theorem S_X1_findError {C : zK} (hC : zCld 215 zTT C) {h : zH} {n : Nat} {K : zQ} {t : Nat} {T : List Int32} {q : zq} (H : zTx h t T q) (H1 : ∀ h', zTx h' t T (zfe zq0 T).2 → zOff t (t + 2) h h' → K 0 (some (.int (nI (zfe zq0 T).1))) h' n) : C 20 [.ref t] h n K := by
  obtain ⟨h1, -, hl⟩ := id H
  refine zd_X1_findError hC rfl fun P hgo hF => ?_
  have loop : ∀ (R : List Int32) (j : Nat) (q1 : zq) (h2 : zH), j + R.length = T.length → T.drop j = R → zTx h2 t T q1 → zOff t (t + 2) h h2 → (zfe zq0 T).1 = j + (zfe q1 R).1 → (zfe zq0 T).2 = (zfe q1 R).2 → P 6 [some (.ref t), some (.int (nI j))] [] h2 n 0 0 := by
    intro R
    induction R with
    | nil =>
      intro j q1 h2 hj hdr H2 ho e1 e2
      obtain ⟨a1, -⟩ := id H2
      rw [List.length_nil] at hj
      refine hgo [6] 60 _ _ _ _ _ _ _ ?_
      conv => whnf
      refine ⟨_, a1, _, rfl, ?_⟩
      conv => whnf
      refine ⟨fun _ => ?_, fun k => absurd (nI_le (show T.length ≤ j by omega) (show j < 2 ^ 31 by omega)) k⟩
      conv => whnf
      refine ⟨_, a1, _, rfl, ?_⟩
      conv => whnf
      have k9 := H1 h2 (by rw [e2]; exact H2) ho
      rw [e1, show j + (zfe q1 []).1 = T.length by rw [show (zfe q1 []).1 = 0 from rfl]; omega] at k9
      exact k9
    | cons c R ih =>
      intro j q1 h2 hj hdr H2 ho e1 e2
      obtain ⟨a1, -⟩ := id H2
      rw [List.length_cons] at hj
      have hc : T[j]? = some c := by
        have : (T.drop j)[0]? = some c := by rw [hdr]; rfl
        rwa [List.getElem?_drop, Nat.add_zero] at this
      have hdr' : T.drop (j + 1) = R := by
        have : (T.drop j).drop 1 = R := by rw [hdr]; rfl
        rwa [List.drop_drop] at this
      refine hgo [6] 60 _ _ _ _ _ _ _ ?_
      conv => whnf
      refine ⟨_, a1, _, rfl, ?_⟩
      conv => whnf
      refine ⟨fun k => absurd k (nI_ge (show j < T.length by omega) (show T.length < 2 ^ 31 by omega)), fun _ => ?_⟩
      conv => whnf
      refine ⟨_, a1, ?_⟩
      conv => whnf
      refine S_X1_codeAt hC H2 (fun j' c' hc' e => ?_) (fun hno => absurd rfl (hno j (by omega)))
      rw [← nI_inj (show j < 2 ^ 31 by omega) (show j' < 2 ^ 31 by have := (List.getElem?_eq_some_iff.mp hc').1; omega) e, hc] at hc'
      cases hc'
      conv => whnf
      refine ⟨_, a1, ?_⟩
      conv => whnf
      refine S_X1_take hC H2 fun h3 H3 ho3 => ?_
      conv => whnf
      refine ⟨fun k => ?_, fun k => ?_⟩
      · rw [zfe_1 k] at e1 e2
        conv => whnf
        have k9 := ih (j + 1) _ h3 (by omega) hdr' H3 (ho.tr ho3) (by rw [e1]; show j + (_ + 1) = j + 1 + _; omega) e2
        rw [← zinc] at k9
        exact k9
      · rw [zfe_0 k] at e1 e2
        conv => whnf
        have k9 := H1 h3 (by rw [e2]; exact H3) (ho.tr ho3)
        rw [e1] at k9
        exact k9
  refine hgo [6] 60 _ _ _ _ _ _ _ ?_
  conv => whnf
  refine ⟨_, h1, ?_⟩
  conv => whnf
  refine S_X1_beginReading hC H fun h' H' ho' => ?_
  conv => whnf
  exact loop T 0 zq0 h' (Nat.zero_add _) rfl H' ho' (Nat.zero_add _).symm rfl
set_option maxRecDepth 100000 in
theorem S_X1_isComplete {C : zK} (hC : zCld 215 zTT C) {h : zH} {n : Nat} {K : zQ} {t : Nat} {T : List Int32} {q : zq} (H : zTx h t T q) (H1 : ∀ h' q', zTx h' t T q' → zOff t (t + 2) h h' → (zfe zq0 T).1 = T.length → zwhole (zfe zq0 T).2 → K 0 (some (.int 1)) h' n) (H0 : ∀ h' q', zTx h' t T q' → zOff t (t + 2) h h' → ¬ ((zfe zq0 T).1 = T.length ∧ zwhole (zfe zq0 T).2) → K 0 (some (.int 0)) h' n) : C 21 [.ref t] h n K := by
  obtain ⟨h1, -, hl⟩ := id H
  have hle := zfe_le T zq0
  refine zd_X1_isComplete hC rfl fun P hgo hF => ?_
  refine hgo [] 60 _ _ _ _ _ _ _ ?_
  conv => whnf
  refine ⟨_, h1, ?_⟩
  conv => whnf
  refine S_X1_findError hC H fun h2 H2 ho2 => ?_
  obtain ⟨a1, -⟩ := id H2
  conv => whnf
  refine ⟨_, a1, _, rfl, ?_⟩
  conv => whnf
  refine ⟨fun k => ?_, fun k => ?_⟩
  · conv => whnf
    exact ⟨Or.inl rfl, H0 h2 _ H2 ho2 fun z => k (by rw [z.1])⟩
  · have e := nI_inj (show (zfe zq0 T).1 < 2 ^ 31 by omega) (show T.length < 2 ^ 31 by omega) k
    conv => whnf
    refine ⟨_, a1, ?_⟩
    conv => whnf
    refine S_X1_commandIsWhole hC H2 (fun hw => ?_) (fun hw => ?_)
    · conv => whnf
      refine ⟨fun k2 => absurd k2 (by decide), fun _ => ?_⟩
      conv => whnf
      exact ⟨Or.inr rfl, H1 h2 _ H2 ho2 e hw⟩
    · conv => whnf
      refine ⟨fun _ => ?_, fun k2 => absurd rfl k2⟩
      conv => whnf
      exact ⟨Or.inl rfl, H0 h2 _ H2 ho2 fun z => hw z.2⟩

