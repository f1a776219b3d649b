/-! many steps at once -/
theorem zrun_ok {T : List (List (Nat × zT))} {C : zK} {R : zQ} {P : zP} {cut : List Nat} (hT : ∀ L ∈ T, ∀ q ∈ L, zmono q.2) (hC : ∀ y as h n (Q Q' : zQ), (∀ x r h n, Q x r h n → Q' x r h n) → C y as h n Q → C y as h n Q') (hP : ∀ pc ls st h n cu su, zstep T C R P pc ls st h n cu su → P pc ls st h n cu su) :
    ∀ (k pc : Nat) (ls : zL) (st : List Value) (h : zH) (n cu su : Nat), zrun T C R P cut k pc ls st h n cu su → P pc ls st h n cu su := by
  intro k
  induction k with
  | zero => intro pc ls st h n cu su hr; exact hr
  | succ k ih =>
    intro pc ls st h n cu su hr
    unfold zrun at hr
    cases hc : cut.elem pc with
    | true => simp only [hc] at hr; exact hr
    | false =>
      simp only [hc] at hr
      refine hP pc ls st h n cu su ?_
      unfold zstep
      cases hf : zfet T pc with
      | none => simp only [hf] at hr
      | some t =>
        simp only [hf] at hr ⊢
        obtain ⟨L, hL, hm⟩ := zfet_mem hf
        exact hT L hL _ hm C R _ _ hC ih ls st h n cu su hr
theorem zgo {T : List (List (Nat × zT))} {C : zK} {R : zQ} {P : zP} (hT : ∀ L ∈ T, ∀ q ∈ L, zmono q.2) (hC : ∀ y as h n (Q Q' : zQ), (∀ x r h n, Q x r h n → Q' x r h n) → C y as h n Q → C y as h n Q') (hP : ∀ pc ls st h n cu su, zstep T C R P pc ls st h n cu su → P pc ls st h n cu su) (cut : List Nat) (k : Nat) {pc : Nat} {ls : zL} {st : List Value} {h : zH} {n cu su : Nat}
    (hr : zstep T C R (zrun T C R P cut k) pc ls st h n cu su) : P pc ls st h n cu su := by
  refine hP pc ls st h n cu su ?_
  unfold zstep at hr ⊢
  cases hf : zfet T pc with
  | none => simp only [hf] at hr
  | some t =>
    simp only [hf] at hr ⊢
    obtain ⟨L, hL, hm⟩ := zfet_mem hf
    exact hT L hL _ hm C R _ _ hC (zrun_ok hT hC hP k) ls st h n cu su hr
/-- what every proof of a method's contract begins with: the go rule over its own table -/
def zGo (T : List (List (Nat × zT))) (C : zK) (R : zQ) (P : zP) : Prop := ∀ (cut : List Nat) (k : Nat) (pc : Nat) (ls : zL) (st : List Value) (h : zH) (n cu su : Nat), zstep T C R (zrun T C R P cut k) pc ls st h n cu su → P pc ls st h n cu su
