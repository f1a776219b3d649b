/-! The reference: changing a draft -/
theorem zdr_sd {σ : zS} {d : Nat} (hd : d < 2) {L : zB} (d' : Nat) : ((d' = 0 ↔ d = 0) → zdr (zsd σ d L) d' = L) ∧ (¬ (d' = 0 ↔ d = 0) → zdr (zsd σ d L) d' = zdr σ d') := by
  rcases (by omega : d = 0 ∨ d = 1) with e | e
  · rw [e]
    by_cases c : d' = 0
    · rw [c]
      exact ⟨fun _ => rfl, fun h => absurd Iff.rfl h⟩
    · refine ⟨fun h => absurd (h.mpr rfl) c, fun _ => ?_⟩
      unfold zdr
      rw [if_neg c, if_neg c]
      rfl
  · rw [e]
    by_cases c : d' = 0
    · rw [c]
      exact ⟨fun h => absurd (h.mp rfl) (by decide), fun _ => rfl⟩
    · refine ⟨fun _ => ?_, fun h => absurd ⟨fun z => absurd z c, fun z => absurd z (by decide)⟩ h⟩
      unfold zdr
      rw [if_neg c]
      rfl
theorem zsd_o {σ : zS} {d : Nat} {L : zB} : zba (zsd σ d L) = zba σ ∧ zus (zsd σ d L) = zus σ ∧ zpf (zsd σ d L) = zpf σ ∧ zac (zsd σ d L) = zac σ ∧ zch (zsd σ d L) = zch σ := by
  unfold zsd
  split <;> exact ⟨rfl, rfl, rfl, rfl, rfl⟩
theorem zRs.setd {f f' : Nat → Int32} {σ : zS} (H : zRs f σ) {d : Nat} (hd : d < 2) {L : zB} (h1 : ∀ w, w < 12 + 31 * d ∨ 43 + 31 * d ≤ w → f' w = f w) (h2 : f' (12 + 31 * d) = nI L.length) (h3 : ∀ j v, L[j]? = some v → f' (13 + 31 * d + j) = nI v.1 ∧ f' (28 + 31 * d + j) = nI v.2) (h4 : L.length ≤ 15) (h5 : ∀ v ∈ L, v.1 < 1000 ∧ v.2 < 1000) : zRs f' (zsd σ d L) := by
  obtain ⟨a1, a2, a3, a4, a5, a6, a7, a8, a9, a10, a11, a12⟩ := H
  obtain ⟨e1, e2, e3, e4, e5⟩ := zsd_o (σ := σ) (d := d) (L := L)
  unfold zRs
  rw [e1, e2, e3, e4, e5]
  refine ⟨(h1 _ (by omega)).trans a1, (h1 _ (by omega)).trans a2, fun i v hv => ?_, fun d' hd' => ?_, fun k hk => (h1 _ (by omega)).trans (a5 k hk), (h1 _ (by omega)).trans a6, (h1 _ (by omega)).trans a7, a8, fun d' => ?_, a10, fun d' => ?_, a12⟩
  · have hi := (List.getElem?_eq_some_iff.mp hv).1
    exact (h1 _ (by omega)).trans (a3 i v hv)
  · by_cases c : d' = 0 ↔ d = 0
    · have e : d' = d := by omega
      rw [(zdr_sd hd d').1 c, e]
      refine ⟨h2, fun j v hv => ?_⟩
      rw [show 12 + 31 * d + (1 + j) = 13 + 31 * d + j by omega, show 12 + 31 * d + (16 + j) = 28 + 31 * d + j by omega]
      exact h3 j v hv
    · rw [(zdr_sd hd d').2 c]
      obtain ⟨b1, b2⟩ := a4 d' hd'
      refine ⟨(h1 _ (by omega)).trans b1, fun j v hv => ?_⟩
      have hj := (List.getElem?_eq_some_iff.mp hv).1
      have hl := a9 d'
      exact ⟨(h1 _ (by omega)).trans (b2 j v hv).1, (h1 _ (by omega)).trans (b2 j v hv).2⟩
  · by_cases c : d' = 0 ↔ d = 0
    · rw [(zdr_sd hd d').1 c]; exact h4
    · rw [(zdr_sd hd d').2 c]; exact a9 d'
  · by_cases c : d' = 0 ↔ d = 0
    · rw [(zdr_sd hd d').1 c]; exact h5
    · rw [(zdr_sd hd d').2 c]; exact a11 d'
theorem zRs.at {f : Nat → Int32} {σ : zS} (H : zRs f σ) {d j : Nat} (hd : d < 2) {v : Nat × Nat} (hv : (zdr σ d)[j]? = some v) : f (13 + 31 * d + j) = nI v.1 ∧ f (28 + 31 * d + j) = nI v.2 := by
  have := (H.2.2.2.1 d hd).2 j v hv
  rw [show 12 + 31 * d + (1 + j) = 13 + 31 * d + j by omega, show 12 + 31 * d + (16 + j) = 28 + 31 * d + j by omega] at this
  exact this
set_option maxRecDepth 100000 in
theorem S_X7_puts {C : zK} (hC : zCld 215 zTT C) {h : zH} {n : Nat} {K : zQ} {r d p x y : Nat} {c : Nat → Int32} {σ : zS} (H : zRr h r c σ) (hd : d < 2) (hp : p ≤ (zdr σ d).length) (hl : (zdr σ d).length < 15) (hx : x < 1000 ∧ y < 1000) (H1 : ∀ h', zRr h' r c (zsd σ d ((zdr σ d).insertIdx p (x, y))) → zOff (r + 1) (r + 2) h h' → K 0 none h' n) : C 133 [.ref r, .int (nI d), .int (nI p), .int (nI x), .int (nI y)] h n K := by
  obtain ⟨h1, f, h2, h3⟩ := id H
  refine S_rawPuts hC h1 h2 hd (h3.2.2.2.1 d hd).1 hl hp (fun h' f' g1 g2 g3 o => ?_)
  have hlen : ((zdr σ d).insertIdx p (x, y)).length = (zdr σ d).length + 1 := List.length_insertIdx_of_le_length hp _
  refine H1 h' ⟨g1, f', g2, h3.setd hd (fun w hw => ?_) ?_ (fun j v hv => ?_) (by omega) (fun v hv => ?_)⟩ o
  · rw [g3]
    unfold zpgF zpg
    rw [if_neg (by omega), if_neg (by omega), if_neg (by omega), if_neg (by omega), if_neg (by omega)]
  · rw [g3]
    unfold zpgF
    rw [if_pos rfl, (h3.2.2.2.1 d hd).1, hlen]
    exact nI_1 _
  · have hj := (List.getElem?_eq_some_iff.mp hv).1
    rw [hlen] at hj
    rw [List.getElem?_insertIdx] at hv
    rw [g3, g3]
    unfold zpgF zpg
    by_cases c1 : j < p
    · rw [if_pos c1] at hv
      rw [if_neg (by omega), if_neg (by omega), if_neg (by omega), if_neg (by omega), if_neg (by omega), if_neg (by omega), if_neg (by omega), if_neg (by omega), if_neg (by omega), if_neg (by omega)]
      exact h3.at hd hv
    · rw [if_neg c1] at hv
      by_cases c2 : j = p
      · rw [if_pos c2, if_pos (show j ≤ (zdr σ d).length by omega)] at hv
        have e : (x, y) = v := Option.some.inj hv
        rw [← e, c2, if_neg (by omega), if_pos rfl, if_neg (by omega), if_neg (by omega), if_pos rfl]
        exact ⟨rfl, rfl⟩
      · rw [if_neg c2] at hv
        rw [if_neg (by omega), if_neg (by omega), if_neg (by omega), if_pos (by omega), if_neg (by omega), if_neg (by omega), if_neg (by omega), if_neg (by omega), if_pos (by omega)]
        have := h3.at hd hv
        rw [show 13 + 31 * d + j - 1 = 13 + 31 * d + (j - 1) by omega, show 28 + 31 * d + j - 1 = 28 + 31 * d + (j - 1) by omega]
        exact this
  · rcases (zmem_ins hp).mp hv with e | e
    · rw [e]; exact hx
    · exact H.lt d v e
/-- the row when the blocks behind p have moved one place back, up to k -/
def ztg (f : Nat → Int32) (d len p k : Nat) : Nat → Int32 := fun w => if w = 12 + 31 * d then nI len else if 13 + 31 * d + p ≤ w ∧ w < 13 + 31 * d + k then f (w + 1) else if 28 + 31 * d + p ≤ w ∧ w < 28 + 31 * d + k then f (w + 1) else f w
set_option maxRecDepth 100000 in
theorem S_rawTakes {C : zK} (hC : zCld 215 zTT C) {h : zH} {n : Nat} {K : zQ} {r d p len : Nat} {c f : Nat → Int32} (h1 : h r = zRO r c) (h2 : h (r + 1) = .inl (0, 106, .inl f)) (hd : d < 2) (hs : f (12 + 31 * d) = nI (len + 1)) (hl : len < 15) (hp : p ≤ len) (H1 : ∀ h' f', h' r = zRO r c → h' (r + 1) = .inl (0, 106, .inl f') → (∀ w, f' w = ztg f d len p len w) → zOff (r + 1) (r + 2) h h' → K 0 none h' n) : C 134 [.ref r, .int (nI d), .int (nI p)] h n K := by
  refine zd_X7_takes hC rfl fun P hgo hF => ?_
  have loop : ∀ e k (h3 : zH) (f3 : Nat → Int32), k + e = len → p ≤ k → h3 r = zRO r c → h3 (r + 1) = .inl (0, 106, .inl f3) → (∀ w, f3 w = ztg f d len p k w) → zOff (r + 1) (r + 2) h h3 → P 16 [some (.ref r), some (.int (nI d)), some (.int (nI p)), some (.int (nI k))] [] h3 n 0 0 := by
    intro e
    induction e with
    | zero =>
      intro k h3 f3 hk hkp a1 a2 a3 o3
      have hkl : k = len := by omega
      refine hgo [16] 60 _ _ _ _ _ _ _ ?_
      conv => whnf
      refine ⟨_, a1, ?_⟩
      refine S_rawS hC a1 a2 hd ?_
      rw [a3, show ztg f d len p k (12 + 31 * d) = nI len from if_pos rfl]
      conv => whnf
      refine ⟨fun _ => ?_, fun q => absurd (nI_le (show len ≤ k by omega) (show k < 2 ^ 31 by omega)) q⟩
      conv => whnf
      rw [hkl] at a3
      exact H1 h3 f3 a1 a2 a3 o3
    | succ e ih =>
      intro k h3 f3 hk hkp a1 a2 a3 o3
      refine hgo [16] 60 _ _ _ _ _ _ _ ?_
      conv => whnf
      refine ⟨_, a1, ?_⟩
      refine S_rawS hC a1 a2 hd ?_
      rw [a3, show ztg f d len p k (12 + 31 * d) = nI len from if_pos rfl]
      conv => whnf
      refine ⟨fun q => absurd q (nI_ge (show k < len by omega) (by omega)), fun _ => ?_⟩
      conv => whnf
      refine ⟨_, a1, _, rfl, ?_⟩
      conv => whnf
      rw [show (1 : Int32) + nI k = nI (1 + k) from nI_add 1 k]
      refine S_X7_at hC ?_
      conv => whnf
      refine ⟨_, a1, _, rfl, ?_⟩
      conv => whnf
      rw [show (1 : Int32) + nI k + 1 = nI (1 + k + 1) by rw [show (1 : Int32) + nI k = nI (1 + k) from nI_add 1 k, nI_1]]
      refine S_X7_at hC ?_
      conv => whnf
      refine ⟨_, _, a2, vp_in_nI (by omega) (by decide), ?_⟩
      conv => whnf
      rw [nI_clamp (by omega)]
      refine ⟨_, _, a2, vp_in_nI (by omega) (by decide), ?_⟩
      rw [nI_clamp (by omega), show 12 + 31 * d + (1 + k) = 13 + 31 * d + k by omega, show 12 + 31 * d + (1 + k + 1) = 13 + 31 * d + (k + 1) by omega]
      conv => whnf
      have o4 : zOff (r + 1) (r + 2) h3 (zupd h3 (r + 1) (.inl (0, 106, .inl (upd f3 (13 + 31 * d + k) (f3 (13 + 31 * d + (k + 1))))))) := zOff.up (Nat.le_refl _) (by omega)
      have b1 := (o4 r (by omega)).trans a1
      have b2 := zupd_s (h := h3) (a := r + 1) (c := .inl (0, 106, .inl (upd f3 (13 + 31 * d + k) (f3 (13 + 31 * d + (k + 1))))))
      generalize zupd h3 (r + 1) (.inl (0, 106, .inl (upd f3 (13 + 31 * d + k) (f3 (13 + 31 * d + (k + 1)))))) = h4 at o4 b1 b2 ⊢
      refine ⟨_, b1, _, rfl, ?_⟩
      conv => whnf
      rw [show (16 : Int32) + nI k = nI (16 + k) from nI_add 16 k]
      refine S_X7_at hC ?_
      conv => whnf
      refine ⟨_, b1, _, rfl, ?_⟩
      conv => whnf
      rw [show (16 : Int32) + nI k + 1 = nI (16 + k + 1) by rw [show (16 : Int32) + nI k = nI (16 + k) from nI_add 16 k, nI_1]]
      refine S_X7_at hC ?_
      conv => whnf
      refine ⟨_, _, b2, vp_in_nI (by omega) (by decide), ?_⟩
      conv => whnf
      rw [nI_clamp (by omega)]
      refine ⟨_, _, b2, vp_in_nI (by omega) (by decide), ?_⟩
      rw [nI_clamp (by omega), show 12 + 31 * d + (16 + k) = 28 + 31 * d + k by omega, show 12 + 31 * d + (16 + k + 1) = 28 + 31 * d + (k + 1) by omega, upd_n (show 28 + 31 * d + (k + 1) ≠ 13 + 31 * d + k by omega)]
      conv => whnf
      have o5 : zOff (r + 1) (r + 2) h4 (zupd h4 (r + 1) (.inl (0, 106, .inl (upd (upd f3 (13 + 31 * d + k) (f3 (13 + 31 * d + (k + 1)))) (28 + 31 * d + k) (f3 (28 + 31 * d + (k + 1))))))) := zOff.up (Nat.le_refl _) (by omega)
      have k9 := ih (k + 1) _ _ (by omega) (by omega) ((o5 r (by omega)).trans b1) zupd_s (fun w => by
        by_cases e2 : w = 28 + 31 * d + k
        · rw [e2, upd_s, a3]
          unfold ztg
          rw [if_neg (by omega), if_neg (by omega), if_neg (by omega), if_neg (by omega), if_neg (by omega), if_pos (by omega)]
          rfl
        · rw [upd_n e2]
          by_cases e3 : w = 13 + 31 * d + k
          · rw [e3, upd_s, a3]
            unfold ztg
            rw [if_neg (by omega), if_neg (by omega), if_neg (by omega), if_neg (by omega), if_pos (by omega)]
            rfl
          · rw [upd_n e3, a3]
            unfold ztg
            by_cases e0 : w = 12 + 31 * d
            · rw [if_pos e0, if_pos e0]
            · rw [if_neg e0, if_neg e0]
              by_cases e4 : 13 + 31 * d + p ≤ w ∧ w < 13 + 31 * d + k
              · rw [if_pos e4, if_pos (show 13 + 31 * d + p ≤ w ∧ w < 13 + 31 * d + (k + 1) by omega)]
              · rw [if_neg e4, if_neg (show ¬ (13 + 31 * d + p ≤ w ∧ w < 13 + 31 * d + (k + 1)) by omega)]
                by_cases e5 : 28 + 31 * d + p ≤ w ∧ w < 28 + 31 * d + k
                · rw [if_pos e5, if_pos (show 28 + 31 * d + p ≤ w ∧ w < 28 + 31 * d + (k + 1) by omega)]
                · rw [if_neg e5, if_neg (show ¬ (28 + 31 * d + p ≤ w ∧ w < 28 + 31 * d + (k + 1)) by omega)]) ((o3.tr o4).tr o5)
      rw [← zinc (j := k)] at k9
      exact k9
  refine hgo [16] 60 _ _ _ _ _ _ _ ?_
  conv => whnf
  refine ⟨_, h1, _, rfl, ?_⟩
  conv => whnf
  refine S_X7_at hC (w := 0) ?_
  conv => whnf
  refine ⟨_, _, h2, vp_in_nI (by omega) (by decide), ?_⟩
  rw [nI_clamp (by omega), Nat.add_zero, hs]
  conv => whnf
  refine ⟨_, _, h2, vp_in_nI (by omega) (by decide), ?_⟩
  rw [nI_clamp (by omega)]
  conv => whnf
  rw [nI_pred]
  have o4 : zOff (r + 1) (r + 2) h (zupd h (r + 1) (.inl (0, 106, .inl (upd f (12 + 31 * d) (nI len))))) := zOff.up (Nat.le_refl _) (by omega)
  exact loop (len - p) p _ _ (by omega) (Nat.le_refl _) ((o4 r (by omega)).trans h1) zupd_s (fun w => by
    unfold ztg
    by_cases e0 : w = 12 + 31 * d
    · rw [if_pos e0, e0, upd_s]
    · rw [if_neg e0, if_neg (by omega), if_neg (by omega), upd_n e0]) o4

