/-! The whole program: similarity -/
theorem zdv_all : (List.range 31).all (fun t => (List.range 46).all (fun a => a == 0 || decide (FP.ddiv (FP.i2d (nI t)) (FP.i2d (nI a)) &&& 0x7fffffffffffffff ≤ 0x7ff0000000000000))) = true := by decide +kernel
theorem zdv {t a : Nat} (ht : t < 31) (ha : a < 46) (h0 : 0 < a) : vf_n64 (FP.ddiv (FP.i2d (nI t)) (FP.i2d (nI a))) := by
  have h1 := List.all_eq_true.mp zdv_all t (List.mem_range.mpr ht)
  have h2 := List.all_eq_true.mp h1 a (List.mem_range.mpr ha)
  rcases (Bool.or_eq_true _ _).mp h2 with z | z
  · exact absurd (eq_of_beq z) (by omega)
  · have z2 : FP.ddiv (FP.i2d (nI t)) (FP.i2d (nI a)) &&& 0x7fffffffffffffff ≤ 0x7ff0000000000000 := of_decide_eq_true z
    exact z2
def zsA (σ : zS) (d : Nat) : Nat := (zmer σ).length + (zdr σ d).length - ((zmer σ).filter (zsh (zdr σ d) false)).length
def zsT (σ : zS) (d : Nat) : Nat := ((zmer σ).filter (zsh (zdr σ d) true)).length
def zsD (t a : Nat) : UInt64 := if a = 0 then FP.dconst1 else FP.ddiv (FP.i2d (nI t)) (FP.i2d (nI a))
def zgD (d : Int32) (σ : zS) : Option UInt64 := (zps d 2).map (fun d' => zsD (zsT σ d') (zsA σ d'))
def zGetD (r : Option UInt64) (K : zQ) (h : zH) (n : Nat) : Prop := match r with
  | some v => K 0 (some (.double v)) h n
  | none => K 3 none h n
set_option maxRecDepth 100000 in
theorem S_X6_similarity {C : zK} (hC : zCld 215 zTT C) {h : zH} {n : Nat} {K : zQ} {A : zA} (H : zX h A) {d : Int32} (H1 : ∀ h', zX h' A → zOff 0 96 h h' → zGetD (zgD d A.1) K h' n) : C 97 [.ref 0, .int d] h n K := by
  have hob := H.1
  obtain ⟨fs, hmo⟩ := H.mo
  refine zd_X6_similarity hC rfl fun P hgo hF => ?_
  unfold zgD at H1
  refine hgo [] 60 _ _ _ _ _ _ _ ?_
  conv => whnf
  refine S_X6_isDraft hC (fun d' e => ?_) (fun e => ?_)
  · obtain ⟨a1, a2⟩ := zps_some e
    rw [e] at H1
    conv => whnf
    refine ⟨fun _ => ?_, fun q => absurd q (by decide)⟩
    conv => whnf
    refine ⟨_, hob, _, rfl, ?_⟩
    conv => whnf
    refine ⟨_, hob, _, rfl, ?_⟩
    conv => whnf
    refine ⟨_, hmo, ?_⟩
    refine S_xmake hC H (fun h2 H2 M2 o2 => ?_)
    replace H1 := H1 h2 H2 o2
    have H3 : K 0 (some (.double (zsD (zsT A.1 d') (zsA A.1 d')))) h2 n := H1
    have ob2 := H2.1
    have st2 := H2.st.1
    have hL := H2.st.dr (d := d')
    obtain ⟨⟨pl, ct, MK⟩, MB, MX0, MX1⟩ := M2
    have mo2 := MK.obj
    obtain ⟨fl, gl, ⟨rl, -, -⟩, hll, -⟩ := hL.raw
    obtain ⟨fm, gm, ⟨rm, -, -⟩, hlm, -⟩ := MB.raw
    have hf : ((zmer A.1).filter (zsh (zdr A.1 d') false)).length ≤ (zmer A.1).length := List.length_filter_le _ _
    have hT : zsT A.1 d' ≤ (zmer A.1).length := List.length_filter_le _ _
    have hA : nI (zmer A.1).length + nI (zdr A.1 d').length - nI ((zmer A.1).filter (zsh (zdr A.1 d') false)).length = nI (zsA A.1 d') := by
      rw [nI_add, pk_sub (by omega)]
      rfl
    have hA2 : zsA A.1 d' < 46 := by
      have : zsA A.1 d' ≤ (zmer A.1).length + (zdr A.1 d').length := Nat.sub_le _ _
      have e5 : (zdr (A.1, A.2.1, A.2.2).1 d').length = (zdr A.1 d').length := rfl
      omega
    conv => whnf
    refine ⟨_, ob2, _, rfl, ?_⟩
    conv => whnf
    refine ⟨_, st2, ?_⟩
    rw [a1]
    refine S_X5_draft hC H2.st a2 ?_
    conv => whnf
    refine ⟨_, ob2, _, rfl, ?_⟩
    conv => whnf
    refine ⟨_, mo2, _, rfl, ?_⟩
    conv => whnf
    refine ⟨_, rm, _, rfl, ?_⟩
    conv => whnf
    refine ⟨_, rl, _, rfl, ?_⟩
    conv => whnf
    refine ⟨_, ob2, _, rfl, ?_⟩
    conv => whnf
    refine ⟨_, mo2, _, rfl, ?_⟩
    conv => whnf
    refine ⟨_, rm, ?_⟩
    refine S_X0_countShared hC MB hL (flag := false) ?_
    conv => whnf
    rw [hA]
    refine ⟨fun q => ?_, fun q => ?_⟩
    · have hpos : 0 < zsA A.1 d' := (nI_ltI (a := 0) (b := zsA A.1 d') (by decide) (by omega)).mp q
      unfold zsD at H3
      rw [if_neg (by omega)] at H3
      conv => whnf
      refine ⟨_, ob2, _, rfl, ?_⟩
      conv => whnf
      refine ⟨_, mo2, _, rfl, ?_⟩
      conv => whnf
      refine ⟨_, rm, ?_⟩
      refine S_X0_countShared hC MB hL (flag := true) ?_
      conv => whnf
      exact ⟨zdv (show zsT A.1 d' < 31 by omega) hA2 hpos, H3⟩
    · have hz : zsA A.1 d' = 0 := by
        have : ¬ 0 < zsA A.1 d' := fun y => q ((nI_ltI (a := 0) (b := zsA A.1 d') (by decide) (by omega)).mpr y)
        omega
      unfold zsD at H3
      rw [if_pos hz] at H3
      conv => whnf
      exact H3
  · rw [e] at H1
    conv => whnf
    refine ⟨fun q => absurd rfl q, fun _ => ?_⟩
    conv => whnf
    exact ⟨rfl, H1 h H zOff.rf⟩

