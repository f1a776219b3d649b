/-! The reference: firstError, run -/
theorem zrW_fe {T : List Int32} (hT : ∀ c ∈ T, (33 : Int32) ≤ c ∧ c ≤ 126) : ∀ e s, T.length + 1 ≤ s + e → s ≤ T.length → ((zrW T e s).1 = false → s + (zfe zq0 (T.drop s)).1 = T.length ∧ zwhole (zfe zq0 (T.drop s)).2) ∧ ((zrW T e s).1 = true → (zrW T e s).2 = s + (zfe zq0 (T.drop s)).1 ∧ ¬ (s + (zfe zq0 (T.drop s)).1 = T.length ∧ zwhole (zfe zq0 (T.drop s)).2)) := by
  intro e
  induction e with
  | zero =>
    intro s h1 h2
    omega
  | succ e ih =>
    intro s h1 h2
    obtain ⟨q', ⟨r1, r2, r3, -⟩, k1, k2, k3⟩ := zcmd hT s
    have hW : zrW T (e + 1) s = (if (zrCp T (false, s)).1 = true ∨ T.length ≤ (zrCp T (false, s)).2 then zrCp T (false, s) else if (zrS T 59 (zrCp T (false, s))).1 = true then zrS T 59 (zrCp T (false, s)) else zrW T e (zrS T 59 (zrCp T (false, s))).2) := rfl
    rw [hW, r3]
    clear hW r3
    have r2' := r2 h2
    have k3' : (zrCp T (false, s)).1 = false → zwhole q' := fun z => (k3 z).1
    clear k3
    generalize zrCp T (false, s) = p1 at r1 r2' k1 k2 k3' ⊢
    obtain ⟨w, t⟩ := p1
    have r1' : s ≤ t := r1
    have r2'' : t ≤ T.length := r2'
    have k1' : zSk T q' t := k1
    cases w with
    | true =>
      have nw : ¬ zwhole q' := k2 rfl
      rw [if_pos (Or.inl rfl)]
      refine ⟨(fun z => nomatch z), fun _ => ?_⟩
      show t = s + ((zfe q' (T.drop t)).1 + (t - s)) ∧ ¬ (s + ((zfe q' (T.drop t)).1 + (t - s)) = T.length ∧ zwhole (zfe q' (T.drop t)).2)
      by_cases c : t < T.length
      · have hc := List.getElem?_eq_getElem c
        rw [zdropT hc, zfe_0 (k1' _ hc (fun z => nw z.2))]
        exact ⟨by show t = s + (0 + (t - s)); omega, fun z => by
          have : s + (0 + (t - s)) = T.length := z.1
          omega⟩
      · rw [List.drop_of_length_le (by omega)]
        exact ⟨by show t = s + (0 + (t - s)); omega, fun z => nw z.2⟩
    | false =>
      have wh : zwhole q' := k3' rfl
      by_cases c : T.length ≤ t
      · rw [if_pos (Or.inr c)]
        refine ⟨fun _ => ?_, fun z => nomatch z⟩
        show s + ((zfe q' (T.drop t)).1 + (t - s)) = T.length ∧ zwhole (zfe q' (T.drop t)).2
        rw [List.drop_of_length_le c]
        exact ⟨by show s + (0 + (t - s)) = T.length; omega, wh⟩
      · have hc := List.getElem?_eq_getElem (show t < T.length by omega)
        rw [if_neg (fun z => z.elim (fun y => nomatch y) c)]
        by_cases g : zN T t = 59
        · have gc : T[t] = 59 := (zN_some hc).symm.trans g
          rw [zrS_1 g]
          have hz : zfe q' (T.drop t) = ((zfe zq0 (T.drop (t + 1))).1 + 1, (zfe zq0 (T.drop (t + 1))).2) := by
            have ek : ztk q' T[t] = (1, zq0) := by
              rw [gc]
              unfold ztk
              exact if_pos ⟨rfl, wh⟩
            rw [zdropT hc, zfe_1 (by rw [ek]; exact (show ¬ (1 : Int32) = 0 by decide)), ek]
          rw [hz]
          have k := ih (t + 1) (by omega) (by omega)
          show ((zrW T e (t + 1)).1 = false → s + ((zfe zq0 (T.drop (t + 1))).1 + 1 + (t - s)) = T.length ∧ zwhole (zfe zq0 (T.drop (t + 1))).2) ∧ ((zrW T e (t + 1)).1 = true → (zrW T e (t + 1)).2 = s + ((zfe zq0 (T.drop (t + 1))).1 + 1 + (t - s)) ∧ ¬ (s + ((zfe zq0 (T.drop (t + 1))).1 + 1 + (t - s)) = T.length ∧ zwhole (zfe zq0 (T.drop (t + 1))).2))
          rw [show s + ((zfe zq0 (T.drop (t + 1))).1 + 1 + (t - s)) = t + 1 + (zfe zq0 (T.drop (t + 1))).1 by omega]
          exact k
        · rw [zrS_0 g]
          refine ⟨(fun z => nomatch z), fun _ => ?_⟩
          show t = s + ((zfe q' (T.drop t)).1 + (t - s)) ∧ ¬ (s + ((zfe q' (T.drop t)).1 + (t - s)) = T.length ∧ zwhole (zfe q' (T.drop t)).2)
          rw [zdropT hc, zfe_0 (k1' _ hc (fun z => g ((zN_some hc).trans z.1)))]
          exact ⟨by show t = s + (0 + (t - s)); omega, fun z => by
            have : s + (0 + (t - s)) = T.length := z.1
            omega⟩
/-- the text from s on is whole -/
def zwt (T : List Int32) (s : Nat) : Prop := s ≤ T.length ∧ s + (zfe zq0 (T.drop s)).1 = T.length ∧ zwhole (zfe zq0 (T.drop s)).2
theorem zwt_lt {T : List Int32} {s : Nat} (h : zwt T s) : s < T.length := by
  obtain ⟨h1, h2, h3⟩ := h
  by_cases c : s < T.length
  · exact c
  · rw [List.drop_of_length_le (by omega)] at h3
    exact absurd h3 zwh_nn
theorem zcmd_run {T : List Int32} (hT : ∀ c ∈ T, (33 : Int32) ≤ c ∧ c ≤ 126) {s : Nat} (h : zwt T s) : ∃ q' t, zrCp T (false, s) = (false, t) ∧ s ≤ t ∧ t ≤ T.length ∧ (∀ σ n, zet (T.drop s) zq0 σ n = zet (T.drop t) q' σ n) ∧ q'.1 = zrV T (false, s) ∧ q'.2.1 = zrCl T (false, s) ∧ q'.2.2.1 = zrCf T (false, s) ∧ (¬ q'.2.1 = 114 → ∀ o, q'.2.2.2.2 = zrCs T (false, s) o) ∧ zrK q'.2.1 = true ∧ (t = T.length ∨ (T[t]? = some 59 ∧ (ztk q' 59).2 = zq0 ∧ zwt T (t + 1))) := by
  obtain ⟨h1, h2, h3⟩ := h
  obtain ⟨q', ⟨r1, r2, r3, r4⟩, k1, k2, k3⟩ := zcmd hT s
  have r2' := r2 h1
  rw [r3] at h2 h3
  generalize hp : zrCp T (false, s) = p1 at r1 r2' r3 r4 k1 k2 k3 h2 h3
  obtain ⟨w, t⟩ := p1
  have r1' : s ≤ t := r1
  have r2'' : t ≤ T.length := r2'
  have k1' : zSk T q' t := k1
  have h2' : s + ((zfe q' (T.drop t)).1 + (t - s)) = T.length := h2
  have h3' : zwhole (zfe q' (T.drop t)).2 := h3
  have hw : w = false := by
    cases w with
    | false => rfl
    | true =>
      have nw : ¬ zwhole q' := k2 rfl
      by_cases c : t < T.length
      · have hc := List.getElem?_eq_getElem c
        rw [zdropT hc, zfe_0 (k1' _ hc (fun z => nw z.2))] at h2'
        have h2'' : s + (0 + (t - s)) = T.length := h2'
        omega
      · rw [List.drop_of_length_le (by omega)] at h3'
        exact absurd h3' nw
  rw [hw] at hp k3
  obtain ⟨f1, f2, f3, f4, f5, f6⟩ := k3 rfl
  refine ⟨q', t, by rw [hw], r1', r2'', r4, f2, f3, f4, f5, f6, ?_⟩
  by_cases c : t < T.length
  · right
    have hc := List.getElem?_eq_getElem c
    by_cases g : T[t] = 59
    · have ek : ztk q' T[t] = (1, zq0) := by
        rw [g]
        unfold ztk
        exact if_pos ⟨rfl, f1⟩
      rw [zdropT hc, zfe_1 (by rw [ek]; exact (show ¬ (1 : Int32) = 0 by decide)), ek] at h2' h3'
      have h2'' : s + ((zfe zq0 (T.drop (t + 1))).1 + 1 + (t - s)) = T.length := h2'
      rw [g] at ek hc
      exact ⟨hc, by rw [ek], by omega, by omega, h3'⟩
    · rw [zdropT hc, zfe_0 (k1' _ hc (fun z => g z.1))] at h2'
      have h2'' : s + (0 + (t - s)) = T.length := h2'
      omega
  · exact Or.inl (by omega)
theorem zxc_q {q : zq} {σ : zS} {a l f g : Int32} (h1 : q.1 = a) (h2 : q.2.1 = l) (h3 : q.2.2.1 = f) (h4 : ¬ q.2.1 = 114 → q.2.2.2.2 = g) : zxc q σ = zxc (a, l, f, 0, g) σ := by
  unfold zxc
  rw [h1, h2, h3]
  rw [h2] at h4
  show (if l = 101 then zcE a f q.2.2.2.2 σ else if l = 109 then zcM a f q.2.2.2.2 σ else if l = 105 then zcI a f q.2.2.2.2 σ else if l = 114 then zcR a f σ else (9, σ, 0)) = (if l = 101 then zcE a f g σ else if l = 109 then zcM a f g σ else if l = 105 then zcI a f g σ else if l = 114 then zcR a f σ else (9, σ, 0))
  by_cases c : l = 114
  · rw [c]
    rfl
  · rw [h4 c]
set_option maxRecDepth 100000 in
theorem S_X7_bars {C : zK} (hC : zCld 215 zTT C) {h : zH} {n : Nat} {K : zQ} {r : Nat} {c : Nat → Int32} {σ : zS} (H : zRr h r c σ) (hk : zrK (c 19) = true) (H1 : K 0 (some (.int (nI (zxc (c 18, c 19, c 20, 0, c 21) σ).1))) h n) : C 187 [.ref r] h n K := by
  have hob := H.ob
  refine zd_X7_bars hC rfl fun P hgo hF => ?_
  refine hgo [] 40 _ _ _ _ _ _ _ ?_
  conv => whnf
  refine ⟨_, hob, _, rfl, ?_⟩
  conv => whnf
  refine ⟨fun q hq e => ?_, fun hn => ?_⟩
  · rcases List.mem_cons.mp hq with e2 | hq
    · rw [e2] at e ⊢
      have e3 : c 19 = 101 := e
      rw [e3] at H1
      conv => whnf
      refine ⟨_, hob, _, rfl, ?_⟩
      conv => whnf
      refine ⟨_, hob, _, rfl, ?_⟩
      conv => whnf
      refine ⟨_, hob, _, rfl, ?_⟩
      conv => whnf
      refine ⟨_, hob, ?_⟩
      refine S_X7_barEdit hC H ?_
      conv => whnf
      exact H1
    · rcases List.mem_cons.mp hq with e2 | hq
      · rw [e2] at e ⊢
        have e3 : c 19 = 105 := e
        rw [e3] at H1
        conv => whnf
        refine ⟨_, hob, _, rfl, ?_⟩
        conv => whnf
        refine ⟨_, hob, _, rfl, ?_⟩
        conv => whnf
        refine ⟨_, hob, _, rfl, ?_⟩
        conv => whnf
        refine ⟨_, hob, ?_⟩
        refine S_X7_barInsert hC H ?_
        conv => whnf
        exact H1
      · rcases List.mem_cons.mp hq with e2 | hq
        · rw [e2] at e ⊢
          have e3 : c 19 = 109 := e
          rw [e3] at H1
          conv => whnf
          refine ⟨_, hob, _, rfl, ?_⟩
          conv => whnf
          refine ⟨_, hob, _, rfl, ?_⟩
          conv => whnf
          refine ⟨_, hob, _, rfl, ?_⟩
          conv => whnf
          refine ⟨_, hob, ?_⟩
          refine S_X7_barMove hC H ?_
          conv => whnf
          exact H1
        · exact nomatch hq
  · have e3 : c 19 = 114 := by
      rcases zrK_iff.mp hk with z | z | z | z
      · exact absurd z (hn (101, 40) List.mem_cons_self)
      · exact absurd z (hn (109, 57) (List.mem_cons_of_mem _ (List.mem_cons_of_mem _ List.mem_cons_self)))
      · exact absurd z (hn (105, 74) (List.mem_cons_of_mem _ List.mem_cons_self))
      · exact z
    rw [e3] at H1
    conv => whnf
    refine ⟨_, hob, _, rfl, ?_⟩
    conv => whnf
    refine ⟨_, hob, _, rfl, ?_⟩
    conv => whnf
    refine ⟨_, hob, ?_⟩
    refine S_X7_barRemove hC H ?_
    conv => whnf
    exact H1
set_option maxRecDepth 100000 in
theorem S_X7_does {C : zK} (hC : zCld 215 zTT C) {h : zH} {n : Nat} {K : zQ} {r : Nat} {c : Nat → Int32} {A : zA} (H : zYc h r c A) (W : zwf A.1) (hk : zrK (c 19) = true) (h0 : (zxc (c 18, c 19, c 20, 0, c 21) A.1).1 = 0) (H1 : ∀ h' v, zYc h' r c ((zxc (c 18, c 19, c 20, 0, c 21) A.1).2.1, A.2.1, A.2.2) → zOff (r + 1) (r + 2) h h' → K 0 (some (.int v)) h' n) : C 188 [.ref r] h n K := by
  have hob := H.ob
  have w3 := W.2.2.1
  refine zd_X7_does hC rfl fun P hgo hF => ?_
  refine hgo [] 40 _ _ _ _ _ _ _ ?_
  conv => whnf
  refine ⟨_, hob, _, rfl, ?_⟩
  conv => whnf
  refine ⟨fun q hq e => ?_, fun hn => ?_⟩
  · rcases List.mem_cons.mp hq with e2 | hq
    · rw [e2] at e ⊢
      have e3 : c 19 = 101 := e
      rw [e3] at H1 h0
      have E : zxc (c 18, 101, c 20, 0, c 21) A.1 = zcE (c 18) (c 20) (c 21) A.1 := rfl
      rw [E] at H1 h0
      rcases zcE_cs (c 18) (c 20) (c 21) A.1 with z | z | ⟨d', p', c', a1, a2, a3, a4, a5, a6, z⟩
      · rw [z] at h0; exact absurd h0 (show ¬ 1 = 0 by decide)
      · rw [z] at h0; exact absurd h0 (show ¬ 2 = 0 by decide)
      · rw [z] at H1
        conv => whnf
        refine ⟨_, hob, _, rfl, ?_⟩
        conv => whnf
        refine ⟨_, hob, _, rfl, ?_⟩
        conv => whnf
        refine ⟨_, hob, _, rfl, ?_⟩
        conv => whnf
        refine ⟨_, hob, ?_⟩
        rw [a1, a3, a5]
        refine S_X7_edits hC H.1 a2 a4 (by omega) (fun h4 H4 o4 => ?_)
        conv => whnf
        exact H1 h4 _ (H.put H4 o4) o4
    · rcases List.mem_cons.mp hq with e2 | hq
      · rw [e2] at e ⊢
        have e3 : c 19 = 105 := e
        rw [e3] at H1 h0
        have E : zxc (c 18, 105, c 20, 0, c 21) A.1 = zcI (c 18) (c 20) (c 21) A.1 := rfl
        rw [E] at H1 h0
        rcases zcI_cs (c 18) (c 20) (c 21) A.1 with z | z | z | ⟨d', p', c', a1, a2, a3, a4, a5, a6, a7, z⟩
        · rw [z] at h0; exact absurd h0 (show ¬ 1 = 0 by decide)
        · rw [z] at h0; exact absurd h0 (show ¬ 2 = 0 by decide)
        · rw [z] at h0; exact absurd h0 (show ¬ 3 = 0 by decide)
        · rw [z] at H1
          have hln := H.1.ln d'
          have h15 : (zdr A.1 d').length < 15 := by
            have : (zdr A.1 d').length ≠ 15 := fun y => a7 (Or.inl y)
            omega
          conv => whnf
          refine ⟨_, hob, _, rfl, ?_⟩
          conv => whnf
          refine ⟨_, hob, _, rfl, ?_⟩
          conv => whnf
          refine ⟨_, hob, _, rfl, ?_⟩
          conv => whnf
          refine ⟨_, hob, ?_⟩
          rw [a1, a3, a5]
          refine S_X7_inserts hC H.1 (by omega) a2 (by omega) h15 (by omega) (fun h4 H4 o4 => ?_)
          conv => whnf
          exact H1 h4 _ (H.put H4 o4) o4
      · rcases List.mem_cons.mp hq with e2 | hq
        · rw [e2] at e ⊢
          have e3 : c 19 = 109 := e
          rw [e3] at H1 h0
          have E : zxc (c 18, 109, c 20, 0, c 21) A.1 = zcM (c 18) (c 20) (c 21) A.1 := rfl
          rw [E] at H1 h0
          rcases zcM_cs (c 18) (c 20) (c 21) A.1 with z | ⟨d', p', c', a1, a2, a3, a4, a5, a6, z⟩
          · rw [z] at h0; exact absurd h0 (show ¬ 1 = 0 by decide)
          · rw [z] at H1
            conv => whnf
            refine ⟨_, hob, _, rfl, ?_⟩
            conv => whnf
            refine ⟨_, hob, _, rfl, ?_⟩
            conv => whnf
            refine ⟨_, hob, _, rfl, ?_⟩
            conv => whnf
            refine ⟨_, hob, ?_⟩
            rw [a1, a3, a5]
            refine S_X7_shifts hC H.1 a2 a4 a6 (fun h4 H4 o4 => ?_)
            conv => whnf
            exact H1 h4 _ (H.put H4 o4) o4
        · exact nomatch hq
  · have e3 : c 19 = 114 := by
      rcases zrK_iff.mp hk with z | z | z | z
      · exact absurd z (hn (101, 40) List.mem_cons_self)
      · exact absurd z (hn (109, 57) (List.mem_cons_of_mem _ (List.mem_cons_of_mem _ List.mem_cons_self)))
      · exact absurd z (hn (105, 74) (List.mem_cons_of_mem _ List.mem_cons_self))
      · exact z
    rw [e3] at H1 h0
    have E : zxc (c 18, 114, c 20, 0, c 21) A.1 = zcR (c 18) (c 20) A.1 := rfl
    rw [E] at H1 h0
    rcases zcR_cs (c 18) (c 20) A.1 with z | ⟨d', p', a1, a2, a3, a4, z⟩
    · rw [z] at h0; exact absurd h0 (show ¬ 1 = 0 by decide)
    · rw [z] at H1
      conv => whnf
      refine ⟨_, hob, _, rfl, ?_⟩
      conv => whnf
      refine ⟨_, hob, _, rfl, ?_⟩
      conv => whnf
      refine ⟨_, hob, ?_⟩
      rw [a1, a3]
      refine S_X7_removes hC H.1 a2 a4 (fun h4 H4 o4 => ?_)
      conv => whnf
      exact H1 h4 _ (H.put H4 o4) o4
set_option maxRecDepth 100000 in
theorem S_X7_firstError {C : zK} (hC : zCld 215 zTT C) {h : zH} {n : Nat} {K : zQ} {r th : Nat} {A : zA} (H : zY h r A th) (W : zwA A) (H1 : ∀ h', zY h' r A 0 → zOff r (r + 12) h h' → K 0 (some (.int (nI (zfe zq0 A.2.2).1))) h' n) : C 186 [.ref r] h n K := by
  obtain ⟨c, H, -⟩ := H
  have hT := W.2.2.2.2
  have hl := W.2.2.2.1
  refine zd_X7_firstError hC rfl fun P hgo hF => ?_
  refine hgo [] 40 _ _ _ _ _ _ _ ?_
  conv => whnf
  refine ⟨_, H.ob, Nat.le_of_ble_eq_true rfl, ⟨rfl, rfl⟩, ?_⟩
  conv => whnf
  have H2 : zYc (zupd h r (zRO r (upd c 5 0))) r (upd c 5 0) A := H.fld (upd_n (by decide)) (upd_n (by decide))
  have o2 : zOff r (r + 12) h (zupd h r (zRO r (upd c 5 0))) := zOff.up (Nat.le_refl _) (by omega)
  have e2 : upd c 5 0 5 = nI 0 := upd_s
  refine ⟨_, H2.ob, ?_⟩
  refine S_X7_isWhole hC H2 hl (fun h3 c3 H3 f3 o3 => ?_)
  have hz := zrW_fe hT (A.2.2.length + 1) 0 (by omega) (Nat.zero_le _)
  have G := H1 h3 ⟨c3, H3.1, (f3 5 (by decide)).trans e2⟩ (o2.tr (o3.wd (by omega) (by omega)))
  have e4 : c3 4 = nI A.2.2.length := H3.1.2.2.2.2.2
  have e16 := H3.2.1
  rw [show A.2.2.drop 0 = A.2.2 from rfl, Nat.zero_add] at hz
  cases hw : (zrW A.2.2 (A.2.2.length + 1) 0).1 with
  | true =>
    rw [(hz.2 hw).1] at e16
    conv => whnf
    refine ⟨fun _ => ?_, fun z => absurd rfl z⟩
    conv => whnf
    refine ⟨_, H3.ob, _, rfl, ?_⟩
    conv => whnf
    rw [e16]
    exact G
  | false =>
    rw [(hz.1 hw).1] at G
    conv => whnf
    refine ⟨fun z => absurd z (by decide), fun _ => ?_⟩
    conv => whnf
    refine ⟨_, H3.ob, _, rfl, ?_⟩
    conv => whnf
    rw [e4]
    exact G

