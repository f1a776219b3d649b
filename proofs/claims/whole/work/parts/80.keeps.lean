/-! The reference: keeps, the lengths -/
theorem zf_0 : ∀ i v, zget [] i = some v → zget [] i = some v := fun _ _ h => h
theorem zf_s {a : Option Value} {l l' : zL} (H : ∀ i v, zget l' i = some v → zget l i = some v) : ∀ i v, zget (a :: l') i = some v → zget (a :: l) i = some v := fun i v => match i with
  | 0 => fun h => h
  | i + 1 => fun h => H i v h
theorem zf_n {a : Option Value} {l l' : zL} (H : ∀ i v, zget l' i = some v → zget l i = some v) : ∀ i v, zget (none :: l') i = some v → zget (a :: l) i = some v := fun i v => match i with
  | 0 => fun h => nomatch h
  | i + 1 => fun h => H i v h
theorem zRr.eq {h h' : zH} {r : Nat} {c : Nat → Int32} {σ : zS} (H : zRr h r c σ) (e : ∀ a, a ≠ r + 4 → a ≠ r + 11 → h' a = h a) : zRr h' r c σ := by
  obtain ⟨h1, f, h2, h3⟩ := H
  exact ⟨(e _ (by omega) (by omega)).trans h1, f, (e _ (by omega) (by omega)).trans h2, h3⟩
theorem zlx_le {nb : Nat} : ∀ M : zB, zlx (zas nb M) ≤ M.length := by
  intro M
  induction M with
  | nil => exact Nat.zero_le _
  | cons v M ih =>
    show max (if v.1 < nb then zbm v.1 M (zas nb M) + 1 else 0) (zlx (zas nb M)) ≤ M.length + 1
    have := zbm_le (nb := nb) (x := v.1) M
    refine Nat.max_le.mpr ⟨?_, by omega⟩
    split <;> omega
theorem zal_out {nb p : Nat} {L : zB} {v : Nat × Nat} (hv : L[p]? = some v) (h : nb ≤ v.1) : zal nb L p = 0 := by
  rw [zal_at hv, if_neg (by omega)]
theorem zal_one {nb p : Nat} {L : zB} {v : Nat × Nat} (hv : L[p]? = some v) (h : v.1 < nb) : zal nb L p = zbm v.1 (L.drop (p + 1)) (zas nb (L.drop (p + 1))) + 1 := by
  rw [zal_at hv, if_pos h]
set_option maxRecDepth 100000 in
theorem S_kpin {C : zK} (hC : zCld 215 zTT C) {n : Nat} {K : zQ} {r d p : Nat} {c : Nat → Int32} {σ : zS} {v : Nat × Nat} {P : zP} (hgo : zGo zT_X7_keeps C K P) (hF : zfgt P) (hd : d < 2) (hv : (zdr σ d)[p]? = some v) (hvn : v.1 < (zba σ).length) {mo : Int32} : ∀ (e j m : Nat) (h : zH) (lf : Nat → Int32), j + e = (zdr σ d).length → p < j → m ≤ 1000 → zRr h r c σ → h (r + 11) = .inl (0, 16, .inl lf) → lf p = nI (m + 1) → (∀ i, p < i → i < (zdr σ d).length → lf i = nI (zal (zba σ).length (zdr σ d) i)) → max m (zbm v.1 ((zdr σ d).drop j) (zas (zba σ).length ((zdr σ d).drop j))) = zbm v.1 ((zdr σ d).drop (p + 1)) (zas (zba σ).length ((zdr σ d).drop (p + 1))) → (∀ h' lf', zRr h' r c σ → h' (r + 11) = .inl (0, 16, .inl lf') → lf' p = nI (zal (zba σ).length (zdr σ d) p) → (∀ i, p < i → i < (zdr σ d).length → lf' i = nI (zal (zba σ).length (zdr σ d) i)) → (∀ a, a ≠ r + 11 → h' a = h a) → P 182 [some (.ref r), some (.int (nI d)), some (.int mo), some (.int (nI p)), none, none, none, none, none] [] h' n 0 0) → P 75 [some (.ref r), some (.int (nI d)), some (.int mo), some (.int (nI p)), some (.int (nI v.1)), some (.int (nI j)), none, none, none] [] h n 0 0 := by
  intro e
  induction e with
  | zero =>
    intro j m h lf hj hpj hm H hl hlp hlf hinv G
    have hL := H.ln d
    rw [List.drop_of_length_le (show (zdr σ d).length ≤ j by omega)] at hinv
    have hz : m = zbm v.1 ((zdr σ d).drop (p + 1)) (zas (zba σ).length ((zdr σ d).drop (p + 1))) := by
      rw [← hinv]
      exact (Nat.max_eq_left (Nat.zero_le _)).symm
    refine hgo [75, 182] 60 _ _ _ _ _ _ _ ?_
    conv => whnf
    refine ⟨_, H.ob, ?_⟩
    refine S_X7_sizeOf hC H hd ?_
    conv => whnf
    refine ⟨fun _ => ?_, fun q => absurd (nI_le (show (zdr σ d).length ≤ j by omega) (show j < 2 ^ 31 by omega)) q⟩
    conv => whnf
    have k9 := G h lf H hl (by rw [zal_one hv hvn, ← hz]; exact hlp) hlf (fun _ _ => rfl)
    refine hF _ _ _ _ _ _ _ _ ?_ k9
    repeat (first | exact zf_0 | refine zf_s ?_ | refine zf_n ?_)
  | succ e ih =>
    intro j m h lf hj hpj hm H hl hlp hlf hinv G
    have hL := H.ln d
    have hnb := H.bs
    obtain ⟨b1, f, b2, b3⟩ := id H
    obtain ⟨u, hu⟩ : ∃ u, (zdr σ d)[j]? = some u := ⟨(zdr σ d)[j], List.getElem?_eq_getElem (by omega)⟩
    have hub := H.lt d u (List.mem_of_getElem? hu)
    have hvb := H.lt d v (List.mem_of_getElem? hv)
    have hza := zal_le (nb := (zba σ).length) (L := zdr σ d) (p := j)
    rw [zas_drop hu, zdrop hu] at hinv
    have hinv' : max m (max (if v.1 < u.1 then zal (zba σ).length (zdr σ d) j else 0) (zbm v.1 ((zdr σ d).drop (j + 1)) (zas (zba σ).length ((zdr σ d).drop (j + 1))))) = zbm v.1 ((zdr σ d).drop (p + 1)) (zas (zba σ).length ((zdr σ d).drop (p + 1))) := hinv
    have hset : ∀ (x : Int32) (m' : Nat), m' ≤ 1000 → x = nI (m' + 1) → max m' (zbm v.1 ((zdr σ d).drop (j + 1)) (zas (zba σ).length ((zdr σ d).drop (j + 1)))) = zbm v.1 ((zdr σ d).drop (p + 1)) (zas (zba σ).length ((zdr σ d).drop (p + 1))) → P 75 [some (.ref r), some (.int (nI d)), some (.int mo), some (.int (nI p)), some (.int (nI v.1)), some (.int (nI j + Int32.ofInt 1)), none, none, none] [] (zupd h (r + 11) (.inl (0, 16, .inl (upd lf p x)))) n 0 0 := by
      intro x m' hm' hx hmx
      have k9 := ih (j + 1) m' (zupd h (r + 11) (.inl (0, 16, .inl (upd lf p x)))) (upd lf p x) (by omega) (by omega) hm' (H.eq fun a _ z2 => zupd_n z2) zupd_s (upd_s.trans hx) (fun i h1 h2 => (upd_n (by omega)).trans (hlf i h1 h2)) hmx (fun h' lf' g1 g2 g3 g4 g5 => G h' lf' g1 g2 g3 g4 (fun a ha => (g5 a ha).trans (zupd_n ha)))
      rw [← zinc (j := j)] at k9
      exact k9
    have no : max m (zbm v.1 ((zdr σ d).drop (j + 1)) (zas (zba σ).length ((zdr σ d).drop (j + 1)))) = zbm v.1 ((zdr σ d).drop (p + 1)) (zas (zba σ).length ((zdr σ d).drop (p + 1))) → P 144 [some (.ref r), some (.int (nI d)), some (.int mo), some (.int (nI p)), some (.int (nI v.1)), some (.int (nI j)), none, none, none] [] h n 0 0 := by
      intro hmx
      have k9 := hset (lf p) m hm hlp hmx
      refine hgo [75] 60 _ _ _ _ _ _ _ ?_
      conv => whnf
      refine ⟨_, b1, _, rfl, ?_⟩
      conv => whnf
      refine ⟨fun _ => ?_, fun z => absurd rfl z⟩
      conv => whnf
      refine ⟨_, b1, _, rfl, ?_⟩
      conv => whnf
      refine ⟨_, _, hl, vp_in_nI (show p < 16 by omega) (by decide), ?_⟩
      rw [nI_clamp (show p < 2 ^ 31 by omega)]
      conv => whnf
      refine ⟨_, _, hl, vp_in_nI (show p < 16 by omega) (by decide), ?_⟩
      rw [nI_clamp (show p < 2 ^ 31 by omega)]
      conv => whnf
      refine hF _ _ _ _ _ _ _ _ ?_ k9
      repeat (first | exact zf_0 | refine zf_s ?_ | refine zf_n ?_)
    have yes : max (zal (zba σ).length (zdr σ d) j) (zbm v.1 ((zdr σ d).drop (j + 1)) (zas (zba σ).length ((zdr σ d).drop (j + 1)))) = zbm v.1 ((zdr σ d).drop (p + 1)) (zas (zba σ).length ((zdr σ d).drop (p + 1))) → P 140 [some (.ref r), some (.int (nI d)), some (.int mo), some (.int (nI p)), some (.int (nI v.1)), some (.int (nI j)), none, none, none] [] h n 0 0 := by
      intro hmx
      have k9 := hset (nI (zal (zba σ).length (zdr σ d) j) + 1) (zal (zba σ).length (zdr σ d) j) (by omega) (nI_1 _) hmx
      refine hgo [75] 60 _ _ _ _ _ _ _ ?_
      conv => whnf
      refine ⟨_, b1, _, rfl, ?_⟩
      conv => whnf
      refine ⟨fun z => absurd z (by decide), fun _ => ?_⟩
      conv => whnf
      refine ⟨_, b1, _, rfl, ?_⟩
      conv => whnf
      refine ⟨_, _, hl, vp_in_nI (show j < 16 by omega) (by decide), ?_⟩
      rw [nI_clamp (show j < 2 ^ 31 by omega), hlf j hpj (by omega)]
      conv => whnf
      refine ⟨_, _, hl, vp_in_nI (show p < 16 by omega) (by decide), ?_⟩
      rw [nI_clamp (show p < 2 ^ 31 by omega)]
      conv => whnf
      refine hF _ _ _ _ _ _ _ _ ?_ k9
      repeat (first | exact zf_0 | refine zf_s ?_ | refine zf_n ?_)
    refine hgo [75, 140, 144, 182] 60 _ _ _ _ _ _ _ ?_
    conv => whnf
    refine ⟨_, b1, ?_⟩
    refine S_X7_sizeOf hC H hd ?_
    conv => whnf
    refine ⟨fun q => absurd q (nI_ge (show j < (zdr σ d).length by omega) (show (zdr σ d).length < 2 ^ 31 by omega)), fun _ => ?_⟩
    conv => whnf
    refine ⟨_, b1, _, rfl, ?_⟩
    conv => whnf
    refine ⟨_, _, b2, vp_in_nI (n := 0) (by omega) (by decide), ?_⟩
    rw [show (0 : Int32).toNatClampNeg = 0 by decide, b3.1]
    conv => whnf
    refine ⟨fun q => absurd q (nI_ge hvn (by omega)), fun _ => ?_⟩
    conv => whnf
    refine ⟨_, b1, ?_⟩
    refine S_X7_numberAt hC H hd hu ?_
    conv => whnf
    refine ⟨_, b1, _, rfl, ?_⟩
    conv => whnf
    refine ⟨_, _, b2, vp_in_nI (n := 0) (by omega) (by decide), ?_⟩
    rw [show (0 : Int32).toNatClampNeg = 0 by decide, b3.1]
    conv => whnf
    refine ⟨fun q => ?_, fun q => ?_⟩
    · have hq : (zba σ).length ≤ u.1 := (nI_leI (by omega) (by omega)).mp q
      conv => whnf
      refine no ?_
      rw [← hinv', zal_out hu hq, ite_self, Nat.max_eq_right (Nat.zero_le _)]
    · have hun : u.1 < (zba σ).length := Nat.lt_of_not_le fun z => q ((nI_leI (by omega) (by omega)).mpr z)
      conv => whnf
      refine ⟨_, b1, ?_⟩
      refine S_X7_numberAt hC H hd hu ?_
      conv => whnf
      refine ⟨fun q2 => ?_, fun q2 => ?_⟩
      · have hle : u.1 ≤ v.1 := (nI_leI (by omega) (by omega)).mp q2
        conv => whnf
        refine no ?_
        rw [← hinv', if_neg (by omega), Nat.max_eq_right (Nat.zero_le _)]
      · have hlt : v.1 < u.1 := Nat.lt_of_not_le fun z => q2 ((nI_leI (by omega) (by omega)).mpr z)
        rw [if_pos hlt] at hinv'
        conv => whnf
        refine ⟨_, b1, _, rfl, ?_⟩
        conv => whnf
        refine ⟨_, _, hl, vp_in_nI (show j < 16 by omega) (by decide), ?_⟩
        rw [nI_clamp (show j < 2 ^ 31 by omega), hlf j hpj (by omega)]
        conv => whnf
        refine ⟨_, b1, _, rfl, ?_⟩
        conv => whnf
        refine ⟨_, _, hl, vp_in_nI (show p < 16 by omega) (by decide), ?_⟩
        rw [nI_clamp (show p < 2 ^ 31 by omega), hlp]
        conv => whnf
        refine ⟨fun q3 => ?_, fun q3 => ?_⟩
        · have h3 : zal (zba σ).length (zdr σ d) j < m + 1 := (nI_ltI (by omega) (by omega)).mp q3
          conv => whnf
          refine no ?_
          omega
        · have h3 : ¬ zal (zba σ).length (zdr σ d) j < m + 1 := fun z => q3 ((nI_ltI (by omega) (by omega)).mpr z)
          conv => whnf
          refine yes ?_
          omega
set_option maxRecDepth 100000 in
theorem S_kpout {C : zK} (hC : zCld 215 zTT C) {n : Nat} {K : zQ} {r d : Nat} {c : Nat → Int32} {σ : zS} {P : zP} (hgo : zGo zT_X7_keeps C K P) (hF : zfgt P) (hd : d < 2) : ∀ (p : Nat) (h : zH) (lf : Nat → Int32), p ≤ (zdr σ d).length → zRr h r c σ → h (r + 11) = .inl (0, 16, .inl lf) → (∀ i, p ≤ i → i < (zdr σ d).length → lf i = nI (zal (zba σ).length (zdr σ d) i)) → (∀ h' lf', zRr h' r c σ → h' (r + 11) = .inl (0, 16, .inl lf') → (∀ i, i < (zdr σ d).length → lf' i = nI (zal (zba σ).length (zdr σ d) i)) → (∀ a, a ≠ r + 11 → h' a = h a) → P 209 [some (.ref r), some (.int (nI d)), some (.int (nI (zlx (zas (zba σ).length (zdr σ d))))), none, none, none, none, none, none] [] h' n 0 0) → P 36 [some (.ref r), some (.int (nI d)), some (.int (nI (zlx (zas (zba σ).length ((zdr σ d).drop p))))), some (.int (nI p - 1)), none, none, none, none, none] [] h n 0 0 := by
  intro p
  induction p with
  | zero =>
    intro h lf hp H hl hlf G
    refine hgo [36, 209] 60 _ _ _ _ _ _ _ ?_
    conv => whnf
    refine ⟨fun _ => ?_, fun q => absurd (by decide) q⟩
    conv => whnf
    have k9 := G h lf H hl (fun i hi => hlf i (Nat.zero_le _) hi) (fun _ _ => rfl)
    refine hF _ _ _ _ _ _ _ _ ?_ k9
    repeat (first | exact zf_0 | refine zf_s ?_ | refine zf_n ?_)
  | succ p ih =>
    intro h lf hp H hl hlf G
    have hL := H.ln d
    have hnb := H.bs
    obtain ⟨b1, f, b2, b3⟩ := id H
    obtain ⟨v, hv⟩ : ∃ v, (zdr σ d)[p]? = some v := ⟨(zdr σ d)[p], List.getElem?_eq_getElem (by omega)⟩
    have hvb := H.lt d v (List.mem_of_getElem? hv)
    have hza := zal_le (nb := (zba σ).length) (L := zdr σ d) (p := p)
    have hzx := zlx_le (nb := (zba σ).length) ((zdr σ d).drop (p + 1))
    rw [List.length_drop] at hzx
    have fin : ∀ h3 lf3, zRr h3 r c σ → h3 (r + 11) = .inl (0, 16, .inl lf3) → lf3 p = nI (zal (zba σ).length (zdr σ d) p) → (∀ i, p < i → i < (zdr σ d).length → lf3 i = nI (zal (zba σ).length (zdr σ d) i)) → (∀ a, a ≠ r + 11 → h3 a = h a) → P 182 [some (.ref r), some (.int (nI d)), some (.int (nI (zlx (zas (zba σ).length ((zdr σ d).drop (p + 1)))))), some (.int (nI p)), none, none, none, none, none] [] h3 n 0 0 := by
      intro h3 lf3 H3 g2 g3 g4 g5
      have d1 := H3.ob
      have k9 := ih h3 lf3 (by omega) H3 g2 (fun i h1 h2 => by
        by_cases c1 : i = p
        · rw [c1]; exact g3
        · exact g4 i (by omega) h2) (fun h' lf' a1 a2 a3 a4 => G h' lf' a1 a2 a3 (fun a ha => (a4 a ha).trans (g5 a ha)))
      rw [zas_drop hv, show zlx (zal (zba σ).length (zdr σ d) p :: zas (zba σ).length ((zdr σ d).drop (p + 1))) = max (zal (zba σ).length (zdr σ d) p) (zlx (zas (zba σ).length ((zdr σ d).drop (p + 1)))) from rfl] at k9
      rw [show nI p - 1 = nI p + Int32.ofInt (-1) by rw [show Int32.ofInt (-1) = -1 by decide, Int32.sub_eq_add_neg]] at k9
      refine hgo [36] 60 _ _ _ _ _ _ _ ?_
      conv => whnf
      refine ⟨_, d1, _, rfl, ?_⟩
      conv => whnf
      refine ⟨_, _, g2, vp_in_nI (show p < 16 by omega) (by decide), ?_⟩
      rw [nI_clamp (show p < 2 ^ 31 by omega), g3]
      conv => whnf
      refine ⟨fun q => ?_, fun q => ?_⟩
      · have h5 : zal (zba σ).length (zdr σ d) p ≤ zlx (zas (zba σ).length ((zdr σ d).drop (p + 1))) := (nI_leI (by omega) (by omega)).mp q
        rw [Nat.max_eq_right h5] at k9
        conv => whnf
        exact k9
      · have h5 : ¬ zal (zba σ).length (zdr σ d) p ≤ zlx (zas (zba σ).length ((zdr σ d).drop (p + 1))) := fun z => q ((nI_leI (by omega) (by omega)).mpr z)
        rw [Nat.max_eq_left (by omega)] at k9
        conv => whnf
        refine ⟨_, d1, _, rfl, ?_⟩
        conv => whnf
        refine ⟨_, _, g2, vp_in_nI (show p < 16 by omega) (by decide), ?_⟩
        rw [nI_clamp (show p < 2 ^ 31 by omega), g3]
        conv => whnf
        exact k9
    rw [show nI (p + 1) - 1 = nI p from nI_pred p]
    refine hgo [36, 75, 182] 60 _ _ _ _ _ _ _ ?_
    conv => whnf
    refine ⟨fun q => absurd q (nI_pos (show p < 2 ^ 31 by omega)), fun _ => ?_⟩
    conv => whnf
    refine ⟨_, b1, ?_⟩
    refine S_X7_numberAt hC H hd hv ?_
    conv => whnf
    refine ⟨_, b1, _, rfl, ?_⟩
    conv => whnf
    refine ⟨_, b1, _, rfl, ?_⟩
    conv => whnf
    refine ⟨_, _, b2, vp_in_nI (n := 0) (by omega) (by decide), ?_⟩
    rw [show (0 : Int32).toNatClampNeg = 0 by decide, b3.1]
    conv => whnf
    refine ⟨fun q => ?_, fun q => ?_⟩
    · have hq : (zba σ).length ≤ v.1 := (nI_leI (by omega) (by omega)).mp q
      have hz := zal_out hv hq
      conv => whnf
      refine ⟨_, _, hl, vp_in_nI (show p < 16 by omega) (by decide), ?_⟩
      rw [nI_clamp (show p < 2 ^ 31 by omega)]
      conv => whnf
      have d1 : zRr (zupd h (r + 11) (.inl (0, 16, .inl (upd lf p 0)))) r c σ := H.eq fun a _ z2 => zupd_n z2
      have k9 := fin (zupd h (r + 11) (.inl (0, 16, .inl (upd lf p 0)))) (upd lf p 0) d1 zupd_s (by rw [upd_s, hz]; rfl) (fun i h1 h2 => (upd_n (by omega)).trans (hlf i (by omega) h2)) (fun a ha => zupd_n ha)
      obtain ⟨e1, f', e2, e3⟩ := id d1
      refine hgo [36, 75, 182] 60 _ _ _ _ _ _ _ ?_
      conv => whnf
      refine ⟨_, e1, ?_⟩
      refine S_X7_sizeOf hC d1 hd ?_
      conv => whnf
      refine ⟨fun q2 => ?_, fun q2 => ?_⟩
      · conv => whnf
        refine hF _ _ _ _ _ _ _ _ ?_ k9
        repeat (first | exact zf_0 | refine zf_s ?_ | refine zf_n ?_)
      · conv => whnf
        refine ⟨_, e1, _, rfl, ?_⟩
        conv => whnf
        refine ⟨_, _, e2, vp_in_nI (n := 0) (by omega) (by decide), ?_⟩
        rw [show (0 : Int32).toNatClampNeg = 0 by decide, e3.1]
        conv => whnf
        refine ⟨fun q3 => ?_, fun q3 => absurd q q3⟩
        conv => whnf
        refine hF _ _ _ _ _ _ _ _ ?_ k9
        repeat (first | exact zf_0 | refine zf_s ?_ | refine zf_n ?_)
    · have hun : v.1 < (zba σ).length := Nat.lt_of_not_le fun z => q ((nI_leI (by omega) (by omega)).mpr z)
      conv => whnf
      refine ⟨_, _, hl, vp_in_nI (show p < 16 by omega) (by decide), ?_⟩
      rw [nI_clamp (show p < 2 ^ 31 by omega)]
      conv => whnf
      have d1 : zRr (zupd h (r + 11) (.inl (0, 16, .inl (upd lf p 1)))) r c σ := H.eq fun a _ z2 => zupd_n z2
      rw [show nI p + 1 = nI (p + 1) from nI_1 p]
      exact S_kpin hC hgo hF hd hv hun ((zdr σ d).length - (p + 1)) (p + 1) 0 _ (upd lf p 1) (by omega) (by omega) (by omega) d1 zupd_s upd_s (fun i h1 h2 => (upd_n (by omega)).trans (hlf i (by omega) h2)) (Nat.max_eq_right (Nat.zero_le _)) (fun h' lf' a1 a2 a3 a4 a5 => fin h' lf' a1 a2 a3 a4 (fun a ha => (a5 a ha).trans (zupd_n ha)))

