/-! The reference's reading and the program's are one: commands -/
theorem ztk_e {q : zq} {c : Int32} (h : ¬ (c = 59 ∧ zwhole q)) : ztk q c = if q.1 = -1 then ztkD q c else if q.2.1 = -1 then ztkK q c else if q.2.2.2.1 = 0 then ztk1 q c else ztk2 q c := by
  unfold ztk
  exact if_neg h
theorem zdropT {T : List Int32} {s : Nat} {c : Int32} (h : T[s]? = some c) : T.drop s = c :: T.drop (s + 1) := by
  obtain ⟨hl, e⟩ := List.getElem?_eq_some_iff.mp h
  rw [List.drop_eq_getElem_cons hl, e]
/-- the program, reading on from s in the state q, comes to s' in the state q' -/
def zRc (T : List Int32) (q : zq) (s : Nat) (q' : zq) (s' : Nat) : Prop := s ≤ s' ∧ (s ≤ T.length → s' ≤ T.length) ∧ zfe q (T.drop s) = ((zfe q' (T.drop s')).1 + (s' - s), (zfe q' (T.drop s')).2) ∧ ∀ σ n, zet (T.drop s) q σ n = zet (T.drop s') q' σ n
theorem zRc.rf {T : List Int32} {q : zq} {s : Nat} : zRc T q s q s := ⟨Nat.le_refl _, id, by rw [Nat.sub_self]; rfl, fun _ _ => rfl⟩
theorem zRc.tr {T : List Int32} {q q1 q2 : zq} {s s1 s2 : Nat} (a : zRc T q s q1 s1) (b : zRc T q1 s1 q2 s2) : zRc T q s q2 s2 := by
  obtain ⟨a1, a2, a3, a4⟩ := a
  obtain ⟨b1, b2, b3, b4⟩ := b
  refine ⟨by omega, fun z => b2 (a2 z), ?_, fun σ n => (a4 σ n).trans (b4 σ n)⟩
  rw [a3, b3]
  show ((zfe q2 (T.drop s2)).1 + (s2 - s1) + (s1 - s), (zfe q2 (T.drop s2)).2) = _
  rw [show (zfe q2 (T.drop s2)).1 + (s2 - s1) + (s1 - s) = (zfe q2 (T.drop s2)).1 + (s2 - s) by omega]
theorem zRc.st {T : List Int32} {q q1 : zq} {s : Nat} {c : Int32} (h : T[s]? = some c) (hc : ¬ c = 59) (hk : ztk q c = (1, q1)) : zRc T q s q1 (s + 1) := by
  have hl := (List.getElem?_eq_some_iff.mp h).1
  refine ⟨Nat.le_succ _, fun _ => hl, ?_, fun σ n => ?_⟩
  · rw [zdropT h, zfe_1 (by rw [hk]; exact (show ¬ (1 : Int32) = 0 by decide)), hk, show s + 1 - s = 1 by omega]
  · rw [zdropT h]
    show (if c = 59 then _ else zet (T.drop (s + 1)) (ztk q c).2 σ n) = _
    rw [if_neg hc, hk]
/-- the program goes no further in this command -/
def zSk (T : List Int32) (q : zq) (s : Nat) : Prop := ∀ c, T[s]? = some c → ¬ (c = 59 ∧ zwhole q) → (ztk q c).1 = 0
theorem zrK_iff {l : Int32} : zrK l = true ↔ (l = 101 ∨ l = 109 ∨ l = 105 ∨ l = 114) := by
  unfold zrK
  rw [Bool.or_eq_true, Bool.or_eq_true, Bool.or_eq_true, decide_eq_true_iff, decide_eq_true_iff, decide_eq_true_iff, decide_eq_true_iff]
theorem zk1_0 {d l f c : Int32} (hd : ¬ d = -1) (hl : ¬ l = -1) (hn : ¬ (c = 59 ∧ zwhole (d, l, f, 0, -1))) (h1 : ¬ ((¬ f = -1) ∧ (¬ l = 114) ∧ c = (if l = 109 then 62 else 61))) (h2 : zwd f c 15 = -1) : (ztk (d, l, f, 0, -1) c).1 = 0 := by
  have e : ztk (d, l, f, 0, -1) c = (0, (d, l, f, 0, -1)) := by
    rw [ztk_e hn]
    refine (if_neg hd).trans ((if_neg hl).trans ((if_pos rfl).trans ?_))
    unfold ztk1
    exact (if_neg h1).trans (if_pos h2)
  rw [e]
theorem zk1_1 {d l f c x : Int32} (hd : ¬ d = -1) (hl : ¬ l = -1) (h59 : ¬ c = 59) (h1 : ¬ ((¬ f = -1) ∧ (¬ l = 114) ∧ c = (if l = 109 then 62 else 61))) (h2 : zwd f c 15 = x) (hx : ¬ x = -1) : ztk (d, l, f, 0, -1) c = (1, (d, l, x, 0, -1)) := by
  rw [ztk_e (fun z => h59 z.1)]
  refine (if_neg hd).trans ((if_neg hl).trans ((if_pos rfl).trans ?_))
  unfold ztk1
  refine (if_neg h1).trans ((if_neg (by rw [show (d, l, f, (0 : Int32), (-1 : Int32)).2.2.1 = f from rfl, h2]; exact hx)).trans ?_)
  show (1, (d, l, zwd f c 15, 0, -1)) = _
  rw [h2]
theorem zk2_0 {d l f g c L : Int32} (hd : ¬ d = -1) (hl : ¬ l = -1) (hn : ¬ (c = 59 ∧ zwhole (d, l, f, 1, g))) (hL : (if l = 109 then 15 else 99) = L) (h2 : zwd g c L = -1) : (ztk (d, l, f, 1, g) c).1 = 0 := by
  have e : ztk (d, l, f, 1, g) c = (0, (d, l, f, 1, g)) := by
    rw [ztk_e hn]
    refine (if_neg hd).trans ((if_neg hl).trans ((if_neg (show ¬ (1 : Int32) = 0 by decide)).trans ?_))
    unfold ztk2
    refine if_pos ?_
    show zwd g c (if l = 109 then 15 else 99) = -1
    rw [hL]
    exact h2
  rw [e]
theorem zk2_1 {d l f g c x L : Int32} (hd : ¬ d = -1) (hl : ¬ l = -1) (h59 : ¬ c = 59) (hL : (if l = 109 then 15 else 99) = L) (h2 : zwd g c L = x) (hx : ¬ x = -1) : ztk (d, l, f, 1, g) c = (1, (d, l, f, 1, x)) := by
  have h3 : zwd g c (if l = 109 then 15 else 99) = x := by rw [hL]; exact h2
  rw [ztk_e (fun z => h59 z.1)]
  refine (if_neg hd).trans ((if_neg hl).trans ((if_neg (show ¬ (1 : Int32) = 0 by decide)).trans ?_))
  unfold ztk2
  refine (if_neg (by rw [show zwd (d, l, f, (1 : Int32), g).2.2.2.2 c (if (d, l, f, (1 : Int32), g).2.1 = 109 then 15 else 99) = x from h3]; exact hx)).trans ?_
  show (1, (d, l, f, 1, zwd g c (if l = 109 then 15 else 99))) = _
  rw [h3]
theorem zsg_l {l c : Int32} (a : ¬ c = 61) (b : ¬ c = 62) : ¬ c = (if l = 109 then 62 else 61) := by
  split
  · exact b
  · exact a
theorem zrNum1 {T : List Int32} (hT : ∀ c ∈ T, (33 : Int32) ≤ c ∧ c ≤ 126) {d l : Int32} (hd : ¬ d = -1) (hl : ¬ l = -1) (s : Nat) : (zrNp T 15 (false, s) = (true, s) ∧ zSk T (d, l, -1, 0, -1) s) ∨ ∃ v s3, v < 100 ∧ zrNp T 15 (false, s) = (false, s3) ∧ zrNv T 15 (false, s) = nI v ∧ zRc T (d, l, -1, 0, -1) s (d, l, nI v, 0, -1) s3 ∧ zwd (nI v) (zN T s3) 15 = -1 := by
  rcases zrNum hT (L := 15) (by omega) s with ⟨a1, a2⟩ | ⟨v, m, a1, a2, a3, ⟨c, c1, c2, c3, c4⟩, a5⟩
  · refine Or.inl ⟨a1, fun c hc hn => zk1_0 hd hl hn (fun z => z.1 rfl) ?_⟩
    rw [← zN_some hc]
    exact a2
  · refine Or.inr ?_
    rw [zN_some c1] at a3
    have st1 := zRc.st c1 c2 (zk1_1 hd hl c2 (fun z => z.1 rfl) a3 (nI_ne_m1 (by omega)))
    rcases a5 with ⟨b1, b2, b3, b4⟩ | ⟨b1, b2, b3, ⟨c', d1, d2, d3, d4⟩, b4⟩
    · rw [b3] at st1
      exact ⟨v, s + 1, a1, b1, b2, st1, b4⟩
    · rw [zN_some d1] at b3
      exact ⟨v, s + 2, a1, b1, b2, st1.tr (zRc.st d1 d2 (zk1_1 hd hl d2 (fun z => zsg_l d3 d4 z.2.2) b3 (nI_ne_m1 (by omega)))), b4⟩
theorem zrNum2 {T : List Int32} (hT : ∀ c ∈ T, (33 : Int32) ≤ c ∧ c ≤ 126) {d l f : Int32} (hd : ¬ d = -1) (hl : ¬ l = -1) {L : Nat} (hL : 9 ≤ L ∧ L < 100) (hL2 : (if l = 109 then 15 else 99) = nI L) (s : Nat) : (zrNp T (nI L) (false, s) = (true, s) ∧ zSk T (d, l, f, 1, -1) s) ∨ ∃ v s3, v < 100 ∧ zrNp T (nI L) (false, s) = (false, s3) ∧ zrNv T (nI L) (false, s) = nI v ∧ zRc T (d, l, f, 1, -1) s (d, l, f, 1, nI v) s3 ∧ zwd (nI v) (zN T s3) (nI L) = -1 := by
  rcases zrNum hT (L := L) hL s with ⟨a1, a2⟩ | ⟨v, m, a1, a2, a3, ⟨c, c1, c2, c3, c4⟩, a5⟩
  · refine Or.inl ⟨a1, fun c hc hn => zk2_0 hd hl hn hL2 ?_⟩
    rw [← zN_some hc]
    exact a2
  · refine Or.inr ?_
    rw [zN_some c1] at a3
    have st1 : zRc T (d, l, f, 1, -1) s (d, l, f, 1, nI m) (s + 1) := zRc.st c1 c2 (zk2_1 hd hl c2 hL2 a3 (nI_ne_m1 (by omega)))
    rcases a5 with ⟨b1, b2, b3, b4⟩ | ⟨b1, b2, b3, ⟨c', d1, d2, d3, d4⟩, b4⟩
    · rw [b3] at st1
      exact ⟨v, s + 1, a1, b1, b2, st1, b4⟩
    · rw [zN_some d1] at b3
      exact ⟨v, s + 2, a1, b1, b2, st1.tr (zRc.st d1 d2 (zk2_1 hd hl d2 hL2 b3 (nI_ne_m1 (by omega)))), b4⟩
theorem zrCp_w {T : List Int32} {p : Bool × Nat} {t : Nat} (h : zrC3 T p = (true, t)) : zrCp T p = (true, t) := by
  unfold zrCp zrC4
  by_cases a : zrCl T p = 109
  · rw [if_pos a, if_pos a, h]
    rfl
  · by_cases b : zrCl T p = 114
    · rw [if_neg a, if_pos b, h]
    · rw [if_neg a, if_neg b, if_neg a, h]
      rfl
theorem zwh_se {d l f s : Int32} (h : ¬ l = 114) : ¬ zwhole (d, l, f, s, -1) := fun z => z (by
  show (if l = 114 then f else -1) = -1
  rw [if_neg h])
theorem zwh_fi {d l s e : Int32} (h : l = 114) : ¬ zwhole (d, l, -1, s, e) := fun z => z (by
  show (if l = 114 then -1 else e) = -1
  rw [if_pos h])
theorem zwh_nn {d l s : Int32} : ¬ zwhole (d, l, -1, s, -1) := by
  by_cases h : l = 114
  · exact zwh_fi h
  · exact zwh_se h
theorem zcmd {T : List Int32} (hT : ∀ c ∈ T, (33 : Int32) ≤ c ∧ c ≤ 126) (s : Nat) : ∃ q', zRc T zq0 s q' (zrCp T (false, s)).2 ∧ zSk T q' (zrCp T (false, s)).2 ∧ ((zrCp T (false, s)).1 = true → ¬ zwhole q') ∧ ((zrCp T (false, s)).1 = false → zwhole q' ∧ q'.1 = zrV T (false, s) ∧ q'.2.1 = zrCl T (false, s) ∧ q'.2.2.1 = zrCf T (false, s) ∧ (¬ q'.2.1 = 114 → ∀ o, q'.2.2.2.2 = zrCs T (false, s) o) ∧ zrK q'.2.1 = true) := by
  obtain ⟨m0, h0, e0⟩ := zN_ex hT s
  by_cases c0 : 48 ≤ m0 ∧ m0 ≤ 49
  · have hd : zrD T 1 (false, s) = (false, s + 1) := zrD_1 (by rw [e0]; exact (zvd h0 (H := 1) (by decide)).mpr ⟨c0.1, by omega⟩)
    have hV : zrV T (false, s) = nI (m0 - 48) := by
      unfold zrV
      rw [show ((false, s) : Bool × Nat).2 = s from rfl, e0, show (48 : Int32) = nI 48 by decide, pk_sub c0.1]
    have hdn : ¬ nI (m0 - 48) = -1 := nI_ne_m1 (by omega)
    have hcl : zrCl T (false, s) = zN T (s + 1) := by
      unfold zrCl
      rw [hd]
    have s1 : zRc T zq0 s (nI (m0 - 48), -1, -1, 0, -1) (s + 1) := by
      refine zRc.st (zN_at e0 (by omega) h0) (fun z => ?_) ?_
      · have := nI_inj (b := 59) (by omega) (by decide) z
        omega
      · rw [ztk_e (fun z => by
          have := nI_inj (b := 59) (by omega) (by decide) z.1
          omega)]
        refine (if_pos rfl).trans ?_
        unfold ztkD
        refine (if_pos ?_).trans ?_
        · rcases (by omega : m0 = 48 ∨ m0 = 49) with e | e
          · rw [e]; exact Or.inl rfl
          · rw [e]; exact Or.inr rfl
        · rw [show (48 : Int32) = nI 48 by decide, pk_sub c0.1]
          rfl
    obtain ⟨m1, h1, e1⟩ := zN_ex hT (s + 1)
    by_cases k : zrK (nI m1) = true
    · have hkk := zrK_iff.mp k
      have hm1 : m1 = 101 ∨ m1 = 109 ∨ m1 = 105 ∨ m1 = 114 := by
        rcases hkk with z | z | z | z
        · exact Or.inl (nI_inj (b := 101) (by omega) (by decide) z)
        · exact Or.inr (Or.inl (nI_inj (b := 109) (by omega) (by decide) z))
        · exact Or.inr (Or.inr (Or.inl (nI_inj (b := 105) (by omega) (by decide) z)))
        · exact Or.inr (Or.inr (Or.inr (nI_inj (b := 114) (by omega) (by decide) z)))
      have hc2 : zrC2 T (false, s) = (false, s + 2) := by
        unfold zrC2
        rw [hd, hcl, e1, k]
        rfl
      have hln : ¬ nI m1 = -1 := nI_ne_m1 (by omega)
      have s2 : zRc T (nI (m0 - 48), -1, -1, 0, -1) (s + 1) (nI (m0 - 48), nI m1, -1, 0, -1) (s + 2) := by
        have h59 : ¬ nI m1 = 59 := fun z => by
          have := nI_inj (b := 59) (by omega) (by decide) z
          omega
        refine zRc.st (zN_at e1 (by omega) h1) h59 ?_
        rw [ztk_e (fun z => h59 z.1)]
        refine (if_neg hdn).trans ((if_pos rfl).trans ?_)
        unfold ztkK
        exact if_pos hkk
      have hcf : zrCf T (false, s) = zrNv T 15 (false, s + 2) := by
        unfold zrCf
        rw [hc2]
      have hc3 : zrC3 T (false, s) = zrNp T 15 (false, s + 2) := by
        unfold zrC3
        rw [hc2]
      rcases zrNum1 hT hdn hln (s + 2) with ⟨a1, a2⟩ | ⟨v, s3, a0, a1, a2, a3, a4⟩
      · have hcp := zrCp_w (hc3.trans a1)
        rw [hcp]
        exact ⟨_, s1.tr s2, a2, fun _ => zwh_nn, fun z => nomatch z⟩
      · rw [a1] at hc3
        rw [a2] at hcf
        have r3 := (s1.tr s2).tr a3
        have hvn : ¬ nI v = -1 := nI_ne_m1 (by omega)
        by_cases l4 : nI m1 = 114
        · have hcp : zrCp T (false, s) = (false, s3) := by
            unfold zrCp
            rw [hcl, e1, if_neg (by rw [l4]; decide), if_pos l4, hc3]
          rw [hcp]
          refine ⟨_, r3, fun c hc hn => zk1_0 hdn hln hn (fun z => z.2.1 l4) (by rw [← zN_some hc]; exact a4), (fun z => nomatch z), fun _ => ⟨fun z => hvn ?_, hV.symm, by rw [hcl, e1], hcf.symm, fun z => absurd l4 z, k⟩⟩
          have z' : (if nI m1 = 114 then nI v else -1) = -1 := z
          rw [if_pos l4] at z'
          exact z'
        · have sg : ∀ x : Int32, (if nI m1 = 109 then 62 else 61) = x → (zrC4 T (false, s) = zrS T x (false, s3)) := by
            intro x hx
            unfold zrC4
            rw [hcl, e1, hc3]
            by_cases c9 : nI m1 = 109
            · rw [if_pos c9] at hx ⊢
              rw [← hx]
            · rw [if_neg c9] at hx ⊢
              rw [← hx]
          obtain ⟨x, hx⟩ : ∃ x : Int32, (if nI m1 = 109 then 62 else 61) = x := ⟨_, rfl⟩
          obtain ⟨L, hL1, hL2⟩ : ∃ L : Nat, (9 ≤ L ∧ L < 100) ∧ (if nI m1 = 109 then 15 else 99) = nI L := by
            by_cases c9 : nI m1 = 109
            · exact ⟨15, by omega, by rw [if_pos c9]; rfl⟩
            · exact ⟨99, by omega, by rw [if_neg c9]; rfl⟩
          have hx59 : ¬ x = 59 := by
            rw [← hx]
            split <;> decide
          have hc4 := sg x hx
          have hcpL : ∀ p4, zrC4 T (false, s) = p4 → zrCp T (false, s) = zrNp T (nI L) p4 ∧ ∀ o, zrCs T (false, s) o = zrNv T (nI L) p4 := by
            intro p4 h4
            unfold zrCp zrCs
            rw [hcl, e1, h4]
            by_cases c9 : nI m1 = 109
            · rw [if_pos c9] at hL2 ⊢
              refine ⟨by rw [hL2], fun o => ?_⟩
              rw [if_pos c9, hL2]
            · rw [if_neg c9] at hL2 ⊢
              refine ⟨by rw [if_neg l4, hL2], fun o => ?_⟩
              rw [if_neg c9, if_neg l4, hL2]
          by_cases sx : zN T s3 = x
          · rw [zrS_1 sx] at hc4
            obtain ⟨hcp, hcs⟩ := hcpL _ hc4
            obtain ⟨m3, h3, e3⟩ := zN_ex hT s3
            have hm3 : 0 < m3 := by
              refine Nat.pos_of_ne_zero fun z => ?_
              rw [z] at e3
              have := e3.symm.trans sx
              rw [← hx] at this
              by_cases c9 : nI m1 = 109
              · rw [if_pos c9] at this
                exact absurd this (by decide)
              · rw [if_neg c9] at this
                exact absurd this (by decide)
            have hat : T[s3]? = some x := by
              rw [← sx, e3]
              exact zN_at e3 hm3 h3
            have s4 : zRc T (nI (m0 - 48), nI m1, nI v, 0, -1) s3 (nI (m0 - 48), nI m1, nI v, 1, -1) (s3 + 1) := by
              refine zRc.st hat hx59 ?_
              rw [ztk_e (fun z => hx59 z.1)]
              refine (if_neg hdn).trans ((if_neg hln).trans ((if_pos rfl).trans ?_))
              unfold ztk1
              exact if_pos ⟨hvn, l4, hx.symm⟩
            have r4 := r3.tr s4
            rcases zrNum2 hT (f := nI v) hdn hln hL1 hL2 (s3 + 1) with ⟨b1, b2⟩ | ⟨w, s5, b0, b1, b2, b3, b4⟩
            · rw [b1] at hcp
              rw [hcp]
              exact ⟨_, r4, b2, fun _ => zwh_se l4, fun z => nomatch z⟩
            · rw [b1] at hcp
              have hwn : ¬ nI w = -1 := nI_ne_m1 (by omega)
              rw [hcp]
              refine ⟨_, r4.tr b3, fun c hc hn => zk2_0 hdn hln hn hL2 (by rw [← zN_some hc]; exact b4), (fun z => nomatch z), fun _ => ⟨fun z => hwn ?_, hV.symm, by rw [hcl, e1], hcf.symm, fun _ o => by rw [hcs, b2], k⟩⟩
              have z' : (if nI m1 = 114 then nI v else nI w) = -1 := z
              rw [if_neg l4] at z'
              exact z'
          · rw [zrS_0 sx] at hc4
            obtain ⟨hcp, hcs⟩ := hcpL _ hc4
            rw [zrN_w] at hcp
            rw [hcp]
            refine ⟨_, r3, fun c hc hn => zk1_0 hdn hln hn (fun z => ?_) (by rw [← zN_some hc]; exact a4), fun _ => zwh_se l4, fun z => nomatch z⟩
            exact sx ((zN_some hc).trans (z.2.2.trans hx))
    · have k' : zrK (nI m1) = false := Bool.eq_false_iff.mpr k
      have hc2 : zrC2 T (false, s) = (true, s + 1) := by
        unfold zrC2
        rw [hd, hcl, e1, k']
        rfl
      have hc3 : zrC3 T (false, s) = (true, s + 1) := by
        unfold zrC3
        rw [hc2]
        rfl
      rw [zrCp_w hc3]
      refine ⟨_, s1, fun c hc hn => ?_, fun _ => zwh_nn, fun z => nomatch z⟩
      have hcc : c = nI m1 := (zN_some hc).symm.trans e1
      have e : ztk (nI (m0 - 48), -1, -1, 0, -1) c = (0, (nI (m0 - 48), -1, -1, 0, -1)) := by
        rw [ztk_e hn]
        refine (if_neg hdn).trans ((if_pos rfl).trans ?_)
        unfold ztkK
        exact if_neg (fun z => k (zrK_iff.mpr (by rw [← hcc]; exact z)))
      rw [e]
  · have hd : zrD T 1 (false, s) = (true, s) := zrD_0 (by rw [e0]; exact fun z => c0 ⟨((zvd h0 (H := 1) (by decide)).mp z).1, by have := ((zvd h0 (H := 1) (by decide)).mp z).2; omega⟩)
    have hc2 : zrC2 T (false, s) = (true, s) := by
      unfold zrC2
      rw [hd]
      rfl
    have hc3 : zrC3 T (false, s) = (true, s) := by
      unfold zrC3
      rw [hc2]
      rfl
    rw [zrCp_w hc3]
    refine ⟨zq0, zRc.rf, fun c hc hn => ?_, fun _ => zwh_nn, fun z => nomatch z⟩
    have hcc : c = nI m0 := (zN_some hc).symm.trans e0
    have e : ztk zq0 c = (0, zq0) := by
      rw [ztk_e hn]
      refine (if_pos rfl).trans ?_
      unfold ztkD
      refine if_neg fun z => c0 ?_
      rw [hcc] at z
      rcases z with z | z
      · have := nI_inj (b := 48) (by omega) (by decide) z
        omega
      · have := nI_inj (b := 49) (by omega) (by decide) z
        omega
    rw [e]

