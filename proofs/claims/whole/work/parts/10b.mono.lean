/-! every transformer grows with what it asks -/
theorem zback_mono {P P' : zP} (hPP : ∀ pc ls st h n cu su, P pc ls st h n cu su → P' pc ls st h n cu su) {nx : Nat} {ls : zL} {s : List Value} {cu su : Nat} : ∀ x r h n, zback P nx ls s cu su x r h n → zback P' nx ls s cu su x r h n := by
  intro x r h n
  cases x with
  | zero => cases r <;> exact hPP _ _ _ _ _ _ _
  | succ x => exact id
theorem zbackx_mono {P P' : zP} (hPP : ∀ pc ls st h n cu su, P pc ls st h n cu su → P' pc ls st h n cu su) {nx : Nat} {ls : zL} {s : List Value} {hs : List (Nat × Nat × Nat)} {cu su : Nat} : ∀ x r h n, zbackx P nx ls s hs cu su x r h n → zbackx P' nx ls s hs cu su x r h n := by
  intro x r h n
  cases x with
  | zero => cases r <;> exact hPP _ _ _ _ _ _ _
  | succ x =>
    unfold zbackx
    simp only
    split
    · split
      · exact hPP _ _ _ _ _ _ _
      · exact id
    · exact id
theorem zm_iload (i nx : Nat) : zmono (zt_iload i nx) := by
  intro C R P P' hC hPP ls st h n cu su ht
  revert ht
  unfold zt_iload
  first
    | exact hPP _ _ _ _ _ _ _
    | exact id
    | exact fun ⟨a, b⟩ => ⟨a, hPP _ _ _ _ _ _ _ b⟩
    | (repeat' split) <;> first
      | exact hPP _ _ _ _ _ _ _
      | exact id
      | exact fun ⟨a, b⟩ => ⟨a, hPP _ _ _ _ _ _ _ b⟩
      | exact fun ⟨a, b⟩ => ⟨fun k => hPP _ _ _ _ _ _ _ (a k), fun k => hPP _ _ _ _ _ _ _ (b k)⟩
      | exact fun ⟨a, b⟩ => ⟨fun q hq k => hPP _ _ _ _ _ _ _ (a q hq k), fun k => hPP _ _ _ _ _ _ _ (b k)⟩
      | exact fun ⟨a, b, c, d, e⟩ => ⟨a, b, c, d, hPP _ _ _ _ _ _ _ e⟩
      | exact fun ⟨a, b, c, d⟩ => ⟨a, b, c, hPP _ _ _ _ _ _ _ d⟩
      | exact fun ⟨a, b, c, d, e, f⟩ => ⟨a, b, c, d, e, hPP _ _ _ _ _ _ _ f⟩
      | exact hC _ _ _ _ _ _ (zback_mono hPP)
      | exact fun ⟨a, b, c⟩ => ⟨a, b, hC _ _ _ _ _ _ (zback_mono hPP) c⟩
      | exact fun ⟨a, b⟩ => ⟨a, hC _ _ _ _ _ _ (zback_mono hPP) b⟩
      | exact fun ⟨a, b, c, d⟩ => ⟨a, b, c, hC _ _ _ _ _ _ (zback_mono hPP) d⟩
      | exact fun ⟨a, b, c, d⟩ => ⟨a, b, c, hC _ _ _ _ _ _ (zbackx_mono hPP) d⟩
theorem zm_aload (i nx : Nat) : zmono (zt_aload i nx) := by
  intro C R P P' hC hPP ls st h n cu su ht
  revert ht
  unfold zt_aload
  first
    | exact hPP _ _ _ _ _ _ _
    | exact id
    | exact fun ⟨a, b⟩ => ⟨a, hPP _ _ _ _ _ _ _ b⟩
    | (repeat' split) <;> first
      | exact hPP _ _ _ _ _ _ _
      | exact id
      | exact fun ⟨a, b⟩ => ⟨a, hPP _ _ _ _ _ _ _ b⟩
      | exact fun ⟨a, b⟩ => ⟨fun k => hPP _ _ _ _ _ _ _ (a k), fun k => hPP _ _ _ _ _ _ _ (b k)⟩
      | exact fun ⟨a, b⟩ => ⟨fun q hq k => hPP _ _ _ _ _ _ _ (a q hq k), fun k => hPP _ _ _ _ _ _ _ (b k)⟩
      | exact fun ⟨a, b, c, d, e⟩ => ⟨a, b, c, d, hPP _ _ _ _ _ _ _ e⟩
      | exact fun ⟨a, b, c, d⟩ => ⟨a, b, c, hPP _ _ _ _ _ _ _ d⟩
      | exact fun ⟨a, b, c, d, e, f⟩ => ⟨a, b, c, d, e, hPP _ _ _ _ _ _ _ f⟩
      | exact hC _ _ _ _ _ _ (zback_mono hPP)
      | exact fun ⟨a, b, c⟩ => ⟨a, b, hC _ _ _ _ _ _ (zback_mono hPP) c⟩
      | exact fun ⟨a, b⟩ => ⟨a, hC _ _ _ _ _ _ (zback_mono hPP) b⟩
      | exact fun ⟨a, b, c, d⟩ => ⟨a, b, c, hC _ _ _ _ _ _ (zback_mono hPP) d⟩
      | exact fun ⟨a, b, c, d⟩ => ⟨a, b, c, hC _ _ _ _ _ _ (zbackx_mono hPP) d⟩
theorem zm_lload (i nx : Nat) : zmono (zt_lload i nx) := by
  intro C R P P' hC hPP ls st h n cu su ht
  revert ht
  unfold zt_lload
  first
    | exact hPP _ _ _ _ _ _ _
    | exact id
    | exact fun ⟨a, b⟩ => ⟨a, hPP _ _ _ _ _ _ _ b⟩
    | (repeat' split) <;> first
      | exact hPP _ _ _ _ _ _ _
      | exact id
      | exact fun ⟨a, b⟩ => ⟨a, hPP _ _ _ _ _ _ _ b⟩
      | exact fun ⟨a, b⟩ => ⟨fun k => hPP _ _ _ _ _ _ _ (a k), fun k => hPP _ _ _ _ _ _ _ (b k)⟩
      | exact fun ⟨a, b⟩ => ⟨fun q hq k => hPP _ _ _ _ _ _ _ (a q hq k), fun k => hPP _ _ _ _ _ _ _ (b k)⟩
      | exact fun ⟨a, b, c, d, e⟩ => ⟨a, b, c, d, hPP _ _ _ _ _ _ _ e⟩
      | exact fun ⟨a, b, c, d⟩ => ⟨a, b, c, hPP _ _ _ _ _ _ _ d⟩
      | exact fun ⟨a, b, c, d, e, f⟩ => ⟨a, b, c, d, e, hPP _ _ _ _ _ _ _ f⟩
      | exact hC _ _ _ _ _ _ (zback_mono hPP)
      | exact fun ⟨a, b, c⟩ => ⟨a, b, hC _ _ _ _ _ _ (zback_mono hPP) c⟩
      | exact fun ⟨a, b⟩ => ⟨a, hC _ _ _ _ _ _ (zback_mono hPP) b⟩
      | exact fun ⟨a, b, c, d⟩ => ⟨a, b, c, hC _ _ _ _ _ _ (zback_mono hPP) d⟩
      | exact fun ⟨a, b, c, d⟩ => ⟨a, b, c, hC _ _ _ _ _ _ (zbackx_mono hPP) d⟩
theorem zm_dload (i nx : Nat) : zmono (zt_dload i nx) := by
  intro C R P P' hC hPP ls st h n cu su ht
  revert ht
  unfold zt_dload
  first
    | exact hPP _ _ _ _ _ _ _
    | exact id
    | exact fun ⟨a, b⟩ => ⟨a, hPP _ _ _ _ _ _ _ b⟩
    | (repeat' split) <;> first
      | exact hPP _ _ _ _ _ _ _
      | exact id
      | exact fun ⟨a, b⟩ => ⟨a, hPP _ _ _ _ _ _ _ b⟩
      | exact fun ⟨a, b⟩ => ⟨fun k => hPP _ _ _ _ _ _ _ (a k), fun k => hPP _ _ _ _ _ _ _ (b k)⟩
      | exact fun ⟨a, b⟩ => ⟨fun q hq k => hPP _ _ _ _ _ _ _ (a q hq k), fun k => hPP _ _ _ _ _ _ _ (b k)⟩
      | exact fun ⟨a, b, c, d, e⟩ => ⟨a, b, c, d, hPP _ _ _ _ _ _ _ e⟩
      | exact fun ⟨a, b, c, d⟩ => ⟨a, b, c, hPP _ _ _ _ _ _ _ d⟩
      | exact fun ⟨a, b, c, d, e, f⟩ => ⟨a, b, c, d, e, hPP _ _ _ _ _ _ _ f⟩
      | exact hC _ _ _ _ _ _ (zback_mono hPP)
      | exact fun ⟨a, b, c⟩ => ⟨a, b, hC _ _ _ _ _ _ (zback_mono hPP) c⟩
      | exact fun ⟨a, b⟩ => ⟨a, hC _ _ _ _ _ _ (zback_mono hPP) b⟩
      | exact fun ⟨a, b, c, d⟩ => ⟨a, b, c, hC _ _ _ _ _ _ (zback_mono hPP) d⟩
      | exact fun ⟨a, b, c, d⟩ => ⟨a, b, c, hC _ _ _ _ _ _ (zbackx_mono hPP) d⟩
theorem zm_istore (i nx : Nat) : zmono (zt_istore i nx) := by
  intro C R P P' hC hPP ls st h n cu su ht
  revert ht
  unfold zt_istore
  first
    | exact hPP _ _ _ _ _ _ _
    | exact id
    | exact fun ⟨a, b⟩ => ⟨a, hPP _ _ _ _ _ _ _ b⟩
    | (repeat' split) <;> first
      | exact hPP _ _ _ _ _ _ _
      | exact id
      | exact fun ⟨a, b⟩ => ⟨a, hPP _ _ _ _ _ _ _ b⟩
      | exact fun ⟨a, b⟩ => ⟨fun k => hPP _ _ _ _ _ _ _ (a k), fun k => hPP _ _ _ _ _ _ _ (b k)⟩
      | exact fun ⟨a, b⟩ => ⟨fun q hq k => hPP _ _ _ _ _ _ _ (a q hq k), fun k => hPP _ _ _ _ _ _ _ (b k)⟩
      | exact fun ⟨a, b, c, d, e⟩ => ⟨a, b, c, d, hPP _ _ _ _ _ _ _ e⟩
      | exact fun ⟨a, b, c, d⟩ => ⟨a, b, c, hPP _ _ _ _ _ _ _ d⟩
      | exact fun ⟨a, b, c, d, e, f⟩ => ⟨a, b, c, d, e, hPP _ _ _ _ _ _ _ f⟩
      | exact hC _ _ _ _ _ _ (zback_mono hPP)
      | exact fun ⟨a, b, c⟩ => ⟨a, b, hC _ _ _ _ _ _ (zback_mono hPP) c⟩
      | exact fun ⟨a, b⟩ => ⟨a, hC _ _ _ _ _ _ (zback_mono hPP) b⟩
      | exact fun ⟨a, b, c, d⟩ => ⟨a, b, c, hC _ _ _ _ _ _ (zback_mono hPP) d⟩
      | exact fun ⟨a, b, c, d⟩ => ⟨a, b, c, hC _ _ _ _ _ _ (zbackx_mono hPP) d⟩
theorem zm_astore (i nx : Nat) : zmono (zt_astore i nx) := by
  intro C R P P' hC hPP ls st h n cu su ht
  revert ht
  unfold zt_astore
  first
    | exact hPP _ _ _ _ _ _ _
    | exact id
    | exact fun ⟨a, b⟩ => ⟨a, hPP _ _ _ _ _ _ _ b⟩
    | (repeat' split) <;> first
      | exact hPP _ _ _ _ _ _ _
      | exact id
      | exact fun ⟨a, b⟩ => ⟨a, hPP _ _ _ _ _ _ _ b⟩
      | exact fun ⟨a, b⟩ => ⟨fun k => hPP _ _ _ _ _ _ _ (a k), fun k => hPP _ _ _ _ _ _ _ (b k)⟩
      | exact fun ⟨a, b⟩ => ⟨fun q hq k => hPP _ _ _ _ _ _ _ (a q hq k), fun k => hPP _ _ _ _ _ _ _ (b k)⟩
      | exact fun ⟨a, b, c, d, e⟩ => ⟨a, b, c, d, hPP _ _ _ _ _ _ _ e⟩
      | exact fun ⟨a, b, c, d⟩ => ⟨a, b, c, hPP _ _ _ _ _ _ _ d⟩
      | exact fun ⟨a, b, c, d, e, f⟩ => ⟨a, b, c, d, e, hPP _ _ _ _ _ _ _ f⟩
      | exact hC _ _ _ _ _ _ (zback_mono hPP)
      | exact fun ⟨a, b, c⟩ => ⟨a, b, hC _ _ _ _ _ _ (zback_mono hPP) c⟩
      | exact fun ⟨a, b⟩ => ⟨a, hC _ _ _ _ _ _ (zback_mono hPP) b⟩
      | exact fun ⟨a, b, c, d⟩ => ⟨a, b, c, hC _ _ _ _ _ _ (zback_mono hPP) d⟩
      | exact fun ⟨a, b, c, d⟩ => ⟨a, b, c, hC _ _ _ _ _ _ (zbackx_mono hPP) d⟩
theorem zm_lstore (i nx : Nat) : zmono (zt_lstore i nx) := by
  intro C R P P' hC hPP ls st h n cu su ht
  revert ht
  unfold zt_lstore
  first
    | exact hPP _ _ _ _ _ _ _
    | exact id
    | exact fun ⟨a, b⟩ => ⟨a, hPP _ _ _ _ _ _ _ b⟩
    | (repeat' split) <;> first
      | exact hPP _ _ _ _ _ _ _
      | exact id
      | exact fun ⟨a, b⟩ => ⟨a, hPP _ _ _ _ _ _ _ b⟩
      | exact fun ⟨a, b⟩ => ⟨fun k => hPP _ _ _ _ _ _ _ (a k), fun k => hPP _ _ _ _ _ _ _ (b k)⟩
      | exact fun ⟨a, b⟩ => ⟨fun q hq k => hPP _ _ _ _ _ _ _ (a q hq k), fun k => hPP _ _ _ _ _ _ _ (b k)⟩
      | exact fun ⟨a, b, c, d, e⟩ => ⟨a, b, c, d, hPP _ _ _ _ _ _ _ e⟩
      | exact fun ⟨a, b, c, d⟩ => ⟨a, b, c, hPP _ _ _ _ _ _ _ d⟩
      | exact fun ⟨a, b, c, d, e, f⟩ => ⟨a, b, c, d, e, hPP _ _ _ _ _ _ _ f⟩
      | exact hC _ _ _ _ _ _ (zback_mono hPP)
      | exact fun ⟨a, b, c⟩ => ⟨a, b, hC _ _ _ _ _ _ (zback_mono hPP) c⟩
      | exact fun ⟨a, b⟩ => ⟨a, hC _ _ _ _ _ _ (zback_mono hPP) b⟩
      | exact fun ⟨a, b, c, d⟩ => ⟨a, b, c, hC _ _ _ _ _ _ (zback_mono hPP) d⟩
      | exact fun ⟨a, b, c, d⟩ => ⟨a, b, c, hC _ _ _ _ _ _ (zbackx_mono hPP) d⟩
theorem zm_dstore (i nx : Nat) : zmono (zt_dstore i nx) := by
  intro C R P P' hC hPP ls st h n cu su ht
  revert ht
  unfold zt_dstore
  first
    | exact hPP _ _ _ _ _ _ _
    | exact id
    | exact fun ⟨a, b⟩ => ⟨a, hPP _ _ _ _ _ _ _ b⟩
    | (repeat' split) <;> first
      | exact hPP _ _ _ _ _ _ _
      | exact id
      | exact fun ⟨a, b⟩ => ⟨a, hPP _ _ _ _ _ _ _ b⟩
      | exact fun ⟨a, b⟩ => ⟨fun k => hPP _ _ _ _ _ _ _ (a k), fun k => hPP _ _ _ _ _ _ _ (b k)⟩
      | exact fun ⟨a, b⟩ => ⟨fun q hq k => hPP _ _ _ _ _ _ _ (a q hq k), fun k => hPP _ _ _ _ _ _ _ (b k)⟩
      | exact fun ⟨a, b, c, d, e⟩ => ⟨a, b, c, d, hPP _ _ _ _ _ _ _ e⟩
      | exact fun ⟨a, b, c, d⟩ => ⟨a, b, c, hPP _ _ _ _ _ _ _ d⟩
      | exact fun ⟨a, b, c, d, e, f⟩ => ⟨a, b, c, d, e, hPP _ _ _ _ _ _ _ f⟩
      | exact hC _ _ _ _ _ _ (zback_mono hPP)
      | exact fun ⟨a, b, c⟩ => ⟨a, b, hC _ _ _ _ _ _ (zback_mono hPP) c⟩
      | exact fun ⟨a, b⟩ => ⟨a, hC _ _ _ _ _ _ (zback_mono hPP) b⟩
      | exact fun ⟨a, b, c, d⟩ => ⟨a, b, c, hC _ _ _ _ _ _ (zback_mono hPP) d⟩
      | exact fun ⟨a, b, c, d⟩ => ⟨a, b, c, hC _ _ _ _ _ _ (zbackx_mono hPP) d⟩
theorem zm_iinc (i : Nat) (k : Int) (nx : Nat) : zmono (zt_iinc i k nx) := by
  intro C R P P' hC hPP ls st h n cu su ht
  revert ht
  unfold zt_iinc
  first
    | exact hPP _ _ _ _ _ _ _
    | exact id
    | exact fun ⟨a, b⟩ => ⟨a, hPP _ _ _ _ _ _ _ b⟩
    | (repeat' split) <;> first
      | exact hPP _ _ _ _ _ _ _
      | exact id
      | exact fun ⟨a, b⟩ => ⟨a, hPP _ _ _ _ _ _ _ b⟩
      | exact fun ⟨a, b⟩ => ⟨fun k => hPP _ _ _ _ _ _ _ (a k), fun k => hPP _ _ _ _ _ _ _ (b k)⟩
      | exact fun ⟨a, b⟩ => ⟨fun q hq k => hPP _ _ _ _ _ _ _ (a q hq k), fun k => hPP _ _ _ _ _ _ _ (b k)⟩
      | exact fun ⟨a, b, c, d, e⟩ => ⟨a, b, c, d, hPP _ _ _ _ _ _ _ e⟩
      | exact fun ⟨a, b, c, d⟩ => ⟨a, b, c, hPP _ _ _ _ _ _ _ d⟩
      | exact fun ⟨a, b, c, d, e, f⟩ => ⟨a, b, c, d, e, hPP _ _ _ _ _ _ _ f⟩
      | exact hC _ _ _ _ _ _ (zback_mono hPP)
      | exact fun ⟨a, b, c⟩ => ⟨a, b, hC _ _ _ _ _ _ (zback_mono hPP) c⟩
      | exact fun ⟨a, b⟩ => ⟨a, hC _ _ _ _ _ _ (zback_mono hPP) b⟩
      | exact fun ⟨a, b, c, d⟩ => ⟨a, b, c, hC _ _ _ _ _ _ (zback_mono hPP) d⟩
      | exact fun ⟨a, b, c, d⟩ => ⟨a, b, c, hC _ _ _ _ _ _ (zbackx_mono hPP) d⟩
theorem zm_iconst (v : Int32) (nx : Nat) : zmono (zt_iconst v nx) := by
  intro C R P P' hC hPP ls st h n cu su ht
  revert ht
  unfold zt_iconst
  first
    | exact hPP _ _ _ _ _ _ _
    | exact id
    | exact fun ⟨a, b⟩ => ⟨a, hPP _ _ _ _ _ _ _ b⟩
    | (repeat' split) <;> first
      | exact hPP _ _ _ _ _ _ _
      | exact id
      | exact fun ⟨a, b⟩ => ⟨a, hPP _ _ _ _ _ _ _ b⟩
      | exact fun ⟨a, b⟩ => ⟨fun k => hPP _ _ _ _ _ _ _ (a k), fun k => hPP _ _ _ _ _ _ _ (b k)⟩
      | exact fun ⟨a, b⟩ => ⟨fun q hq k => hPP _ _ _ _ _ _ _ (a q hq k), fun k => hPP _ _ _ _ _ _ _ (b k)⟩
      | exact fun ⟨a, b, c, d, e⟩ => ⟨a, b, c, d, hPP _ _ _ _ _ _ _ e⟩
      | exact fun ⟨a, b, c, d⟩ => ⟨a, b, c, hPP _ _ _ _ _ _ _ d⟩
      | exact fun ⟨a, b, c, d, e, f⟩ => ⟨a, b, c, d, e, hPP _ _ _ _ _ _ _ f⟩
      | exact hC _ _ _ _ _ _ (zback_mono hPP)
      | exact fun ⟨a, b, c⟩ => ⟨a, b, hC _ _ _ _ _ _ (zback_mono hPP) c⟩
      | exact fun ⟨a, b⟩ => ⟨a, hC _ _ _ _ _ _ (zback_mono hPP) b⟩
      | exact fun ⟨a, b, c, d⟩ => ⟨a, b, c, hC _ _ _ _ _ _ (zback_mono hPP) d⟩
      | exact fun ⟨a, b, c, d⟩ => ⟨a, b, c, hC _ _ _ _ _ _ (zbackx_mono hPP) d⟩
theorem zm_lconst (v : Int64) (nx : Nat) : zmono (zt_lconst v nx) := by
  intro C R P P' hC hPP ls st h n cu su ht
  revert ht
  unfold zt_lconst
  first
    | exact hPP _ _ _ _ _ _ _
    | exact id
    | exact fun ⟨a, b⟩ => ⟨a, hPP _ _ _ _ _ _ _ b⟩
    | (repeat' split) <;> first
      | exact hPP _ _ _ _ _ _ _
      | exact id
      | exact fun ⟨a, b⟩ => ⟨a, hPP _ _ _ _ _ _ _ b⟩
      | exact fun ⟨a, b⟩ => ⟨fun k => hPP _ _ _ _ _ _ _ (a k), fun k => hPP _ _ _ _ _ _ _ (b k)⟩
      | exact fun ⟨a, b⟩ => ⟨fun q hq k => hPP _ _ _ _ _ _ _ (a q hq k), fun k => hPP _ _ _ _ _ _ _ (b k)⟩
      | exact fun ⟨a, b, c, d, e⟩ => ⟨a, b, c, d, hPP _ _ _ _ _ _ _ e⟩
      | exact fun ⟨a, b, c, d⟩ => ⟨a, b, c, hPP _ _ _ _ _ _ _ d⟩
      | exact fun ⟨a, b, c, d, e, f⟩ => ⟨a, b, c, d, e, hPP _ _ _ _ _ _ _ f⟩
      | exact hC _ _ _ _ _ _ (zback_mono hPP)
      | exact fun ⟨a, b, c⟩ => ⟨a, b, hC _ _ _ _ _ _ (zback_mono hPP) c⟩
      | exact fun ⟨a, b⟩ => ⟨a, hC _ _ _ _ _ _ (zback_mono hPP) b⟩
      | exact fun ⟨a, b, c, d⟩ => ⟨a, b, c, hC _ _ _ _ _ _ (zback_mono hPP) d⟩
      | exact fun ⟨a, b, c, d⟩ => ⟨a, b, c, hC _ _ _ _ _ _ (zbackx_mono hPP) d⟩
theorem zm_dconst (v : UInt64) (nx : Nat) : zmono (zt_dconst v nx) := by
  intro C R P P' hC hPP ls st h n cu su ht
  revert ht
  unfold zt_dconst
  first
    | exact hPP _ _ _ _ _ _ _
    | exact id
    | exact fun ⟨a, b⟩ => ⟨a, hPP _ _ _ _ _ _ _ b⟩
    | (repeat' split) <;> first
      | exact hPP _ _ _ _ _ _ _
      | exact id
      | exact fun ⟨a, b⟩ => ⟨a, hPP _ _ _ _ _ _ _ b⟩
      | exact fun ⟨a, b⟩ => ⟨fun k => hPP _ _ _ _ _ _ _ (a k), fun k => hPP _ _ _ _ _ _ _ (b k)⟩
      | exact fun ⟨a, b⟩ => ⟨fun q hq k => hPP _ _ _ _ _ _ _ (a q hq k), fun k => hPP _ _ _ _ _ _ _ (b k)⟩
      | exact fun ⟨a, b, c, d, e⟩ => ⟨a, b, c, d, hPP _ _ _ _ _ _ _ e⟩
      | exact fun ⟨a, b, c, d⟩ => ⟨a, b, c, hPP _ _ _ _ _ _ _ d⟩
      | exact fun ⟨a, b, c, d, e, f⟩ => ⟨a, b, c, d, e, hPP _ _ _ _ _ _ _ f⟩
      | exact hC _ _ _ _ _ _ (zback_mono hPP)
      | exact fun ⟨a, b, c⟩ => ⟨a, b, hC _ _ _ _ _ _ (zback_mono hPP) c⟩
      | exact fun ⟨a, b⟩ => ⟨a, hC _ _ _ _ _ _ (zback_mono hPP) b⟩
      | exact fun ⟨a, b, c, d⟩ => ⟨a, b, c, hC _ _ _ _ _ _ (zback_mono hPP) d⟩
      | exact fun ⟨a, b, c, d⟩ => ⟨a, b, c, hC _ _ _ _ _ _ (zbackx_mono hPP) d⟩
theorem zm_null (nx : Nat) : zmono (zt_null nx) := by
  intro C R P P' hC hPP ls st h n cu su ht
  revert ht
  unfold zt_null
  first
    | exact hPP _ _ _ _ _ _ _
    | exact id
    | exact fun ⟨a, b⟩ => ⟨a, hPP _ _ _ _ _ _ _ b⟩
    | (repeat' split) <;> first
      | exact hPP _ _ _ _ _ _ _
      | exact id
      | exact fun ⟨a, b⟩ => ⟨a, hPP _ _ _ _ _ _ _ b⟩
      | exact fun ⟨a, b⟩ => ⟨fun k => hPP _ _ _ _ _ _ _ (a k), fun k => hPP _ _ _ _ _ _ _ (b k)⟩
      | exact fun ⟨a, b⟩ => ⟨fun q hq k => hPP _ _ _ _ _ _ _ (a q hq k), fun k => hPP _ _ _ _ _ _ _ (b k)⟩
      | exact fun ⟨a, b, c, d, e⟩ => ⟨a, b, c, d, hPP _ _ _ _ _ _ _ e⟩
      | exact fun ⟨a, b, c, d⟩ => ⟨a, b, c, hPP _ _ _ _ _ _ _ d⟩
      | exact fun ⟨a, b, c, d, e, f⟩ => ⟨a, b, c, d, e, hPP _ _ _ _ _ _ _ f⟩
      | exact hC _ _ _ _ _ _ (zback_mono hPP)
      | exact fun ⟨a, b, c⟩ => ⟨a, b, hC _ _ _ _ _ _ (zback_mono hPP) c⟩
      | exact fun ⟨a, b⟩ => ⟨a, hC _ _ _ _ _ _ (zback_mono hPP) b⟩
      | exact fun ⟨a, b, c, d⟩ => ⟨a, b, c, hC _ _ _ _ _ _ (zback_mono hPP) d⟩
      | exact fun ⟨a, b, c, d⟩ => ⟨a, b, c, hC _ _ _ _ _ _ (zbackx_mono hPP) d⟩
theorem zm_iadd (nx : Nat) : zmono (zt_iadd nx) := by
  intro C R P P' hC hPP ls st h n cu su ht
  revert ht
  unfold zt_iadd
  first
    | exact hPP _ _ _ _ _ _ _
    | exact id
    | exact fun ⟨a, b⟩ => ⟨a, hPP _ _ _ _ _ _ _ b⟩
    | (repeat' split) <;> first
      | exact hPP _ _ _ _ _ _ _
      | exact id
      | exact fun ⟨a, b⟩ => ⟨a, hPP _ _ _ _ _ _ _ b⟩
      | exact fun ⟨a, b⟩ => ⟨fun k => hPP _ _ _ _ _ _ _ (a k), fun k => hPP _ _ _ _ _ _ _ (b k)⟩
      | exact fun ⟨a, b⟩ => ⟨fun q hq k => hPP _ _ _ _ _ _ _ (a q hq k), fun k => hPP _ _ _ _ _ _ _ (b k)⟩
      | exact fun ⟨a, b, c, d, e⟩ => ⟨a, b, c, d, hPP _ _ _ _ _ _ _ e⟩
      | exact fun ⟨a, b, c, d⟩ => ⟨a, b, c, hPP _ _ _ _ _ _ _ d⟩
      | exact fun ⟨a, b, c, d, e, f⟩ => ⟨a, b, c, d, e, hPP _ _ _ _ _ _ _ f⟩
      | exact hC _ _ _ _ _ _ (zback_mono hPP)
      | exact fun ⟨a, b, c⟩ => ⟨a, b, hC _ _ _ _ _ _ (zback_mono hPP) c⟩
      | exact fun ⟨a, b⟩ => ⟨a, hC _ _ _ _ _ _ (zback_mono hPP) b⟩
      | exact fun ⟨a, b, c, d⟩ => ⟨a, b, c, hC _ _ _ _ _ _ (zback_mono hPP) d⟩
      | exact fun ⟨a, b, c, d⟩ => ⟨a, b, c, hC _ _ _ _ _ _ (zbackx_mono hPP) d⟩
theorem zm_isub (nx : Nat) : zmono (zt_isub nx) := by
  intro C R P P' hC hPP ls st h n cu su ht
  revert ht
  unfold zt_isub
  first
    | exact hPP _ _ _ _ _ _ _
    | exact id
    | exact fun ⟨a, b⟩ => ⟨a, hPP _ _ _ _ _ _ _ b⟩
    | (repeat' split) <;> first
      | exact hPP _ _ _ _ _ _ _
      | exact id
      | exact fun ⟨a, b⟩ => ⟨a, hPP _ _ _ _ _ _ _ b⟩
      | exact fun ⟨a, b⟩ => ⟨fun k => hPP _ _ _ _ _ _ _ (a k), fun k => hPP _ _ _ _ _ _ _ (b k)⟩
      | exact fun ⟨a, b⟩ => ⟨fun q hq k => hPP _ _ _ _ _ _ _ (a q hq k), fun k => hPP _ _ _ _ _ _ _ (b k)⟩
      | exact fun ⟨a, b, c, d, e⟩ => ⟨a, b, c, d, hPP _ _ _ _ _ _ _ e⟩
      | exact fun ⟨a, b, c, d⟩ => ⟨a, b, c, hPP _ _ _ _ _ _ _ d⟩
      | exact fun ⟨a, b, c, d, e, f⟩ => ⟨a, b, c, d, e, hPP _ _ _ _ _ _ _ f⟩
      | exact hC _ _ _ _ _ _ (zback_mono hPP)
      | exact fun ⟨a, b, c⟩ => ⟨a, b, hC _ _ _ _ _ _ (zback_mono hPP) c⟩
      | exact fun ⟨a, b⟩ => ⟨a, hC _ _ _ _ _ _ (zback_mono hPP) b⟩
      | exact fun ⟨a, b, c, d⟩ => ⟨a, b, c, hC _ _ _ _ _ _ (zback_mono hPP) d⟩
      | exact fun ⟨a, b, c, d⟩ => ⟨a, b, c, hC _ _ _ _ _ _ (zbackx_mono hPP) d⟩
theorem zm_imul (nx : Nat) : zmono (zt_imul nx) := by
  intro C R P P' hC hPP ls st h n cu su ht
  revert ht
  unfold zt_imul
  first
    | exact hPP _ _ _ _ _ _ _
    | exact id
    | exact fun ⟨a, b⟩ => ⟨a, hPP _ _ _ _ _ _ _ b⟩
    | (repeat' split) <;> first
      | exact hPP _ _ _ _ _ _ _
      | exact id
      | exact fun ⟨a, b⟩ => ⟨a, hPP _ _ _ _ _ _ _ b⟩
      | exact fun ⟨a, b⟩ => ⟨fun k => hPP _ _ _ _ _ _ _ (a k), fun k => hPP _ _ _ _ _ _ _ (b k)⟩
      | exact fun ⟨a, b⟩ => ⟨fun q hq k => hPP _ _ _ _ _ _ _ (a q hq k), fun k => hPP _ _ _ _ _ _ _ (b k)⟩
      | exact fun ⟨a, b, c, d, e⟩ => ⟨a, b, c, d, hPP _ _ _ _ _ _ _ e⟩
      | exact fun ⟨a, b, c, d⟩ => ⟨a, b, c, hPP _ _ _ _ _ _ _ d⟩
      | exact fun ⟨a, b, c, d, e, f⟩ => ⟨a, b, c, d, e, hPP _ _ _ _ _ _ _ f⟩
      | exact hC _ _ _ _ _ _ (zback_mono hPP)
      | exact fun ⟨a, b, c⟩ => ⟨a, b, hC _ _ _ _ _ _ (zback_mono hPP) c⟩
      | exact fun ⟨a, b⟩ => ⟨a, hC _ _ _ _ _ _ (zback_mono hPP) b⟩
      | exact fun ⟨a, b, c, d⟩ => ⟨a, b, c, hC _ _ _ _ _ _ (zback_mono hPP) d⟩
      | exact fun ⟨a, b, c, d⟩ => ⟨a, b, c, hC _ _ _ _ _ _ (zbackx_mono hPP) d⟩
theorem zm_iand (nx : Nat) : zmono (zt_iand nx) := by
  intro C R P P' hC hPP ls st h n cu su ht
  revert ht
  unfold zt_iand
  first
    | exact hPP _ _ _ _ _ _ _
    | exact id
    | exact fun ⟨a, b⟩ => ⟨a, hPP _ _ _ _ _ _ _ b⟩
    | (repeat' split) <;> first
      | exact hPP _ _ _ _ _ _ _
      | exact id
      | exact fun ⟨a, b⟩ => ⟨a, hPP _ _ _ _ _ _ _ b⟩
      | exact fun ⟨a, b⟩ => ⟨fun k => hPP _ _ _ _ _ _ _ (a k), fun k => hPP _ _ _ _ _ _ _ (b k)⟩
      | exact fun ⟨a, b⟩ => ⟨fun q hq k => hPP _ _ _ _ _ _ _ (a q hq k), fun k => hPP _ _ _ _ _ _ _ (b k)⟩
      | exact fun ⟨a, b, c, d, e⟩ => ⟨a, b, c, d, hPP _ _ _ _ _ _ _ e⟩
      | exact fun ⟨a, b, c, d⟩ => ⟨a, b, c, hPP _ _ _ _ _ _ _ d⟩
      | exact fun ⟨a, b, c, d, e, f⟩ => ⟨a, b, c, d, e, hPP _ _ _ _ _ _ _ f⟩
      | exact hC _ _ _ _ _ _ (zback_mono hPP)
      | exact fun ⟨a, b, c⟩ => ⟨a, b, hC _ _ _ _ _ _ (zback_mono hPP) c⟩
      | exact fun ⟨a, b⟩ => ⟨a, hC _ _ _ _ _ _ (zback_mono hPP) b⟩
      | exact fun ⟨a, b, c, d⟩ => ⟨a, b, c, hC _ _ _ _ _ _ (zback_mono hPP) d⟩
      | exact fun ⟨a, b, c, d⟩ => ⟨a, b, c, hC _ _ _ _ _ _ (zbackx_mono hPP) d⟩
theorem zm_ladd (nx : Nat) : zmono (zt_ladd nx) := by
  intro C R P P' hC hPP ls st h n cu su ht
  revert ht
  unfold zt_ladd
  first
    | exact hPP _ _ _ _ _ _ _
    | exact id
    | exact fun ⟨a, b⟩ => ⟨a, hPP _ _ _ _ _ _ _ b⟩
    | (repeat' split) <;> first
      | exact hPP _ _ _ _ _ _ _
      | exact id
      | exact fun ⟨a, b⟩ => ⟨a, hPP _ _ _ _ _ _ _ b⟩
      | exact fun ⟨a, b⟩ => ⟨fun k => hPP _ _ _ _ _ _ _ (a k), fun k => hPP _ _ _ _ _ _ _ (b k)⟩
      | exact fun ⟨a, b⟩ => ⟨fun q hq k => hPP _ _ _ _ _ _ _ (a q hq k), fun k => hPP _ _ _ _ _ _ _ (b k)⟩
      | exact fun ⟨a, b, c, d, e⟩ => ⟨a, b, c, d, hPP _ _ _ _ _ _ _ e⟩
      | exact fun ⟨a, b, c, d⟩ => ⟨a, b, c, hPP _ _ _ _ _ _ _ d⟩
      | exact fun ⟨a, b, c, d, e, f⟩ => ⟨a, b, c, d, e, hPP _ _ _ _ _ _ _ f⟩
      | exact hC _ _ _ _ _ _ (zback_mono hPP)
      | exact fun ⟨a, b, c⟩ => ⟨a, b, hC _ _ _ _ _ _ (zback_mono hPP) c⟩
      | exact fun ⟨a, b⟩ => ⟨a, hC _ _ _ _ _ _ (zback_mono hPP) b⟩
      | exact fun ⟨a, b, c, d⟩ => ⟨a, b, c, hC _ _ _ _ _ _ (zback_mono hPP) d⟩
      | exact fun ⟨a, b, c, d⟩ => ⟨a, b, c, hC _ _ _ _ _ _ (zbackx_mono hPP) d⟩
theorem zm_lmul (nx : Nat) : zmono (zt_lmul nx) := by
  intro C R P P' hC hPP ls st h n cu su ht
  revert ht
  unfold zt_lmul
  first
    | exact hPP _ _ _ _ _ _ _
    | exact id
    | exact fun ⟨a, b⟩ => ⟨a, hPP _ _ _ _ _ _ _ b⟩
    | (repeat' split) <;> first
      | exact hPP _ _ _ _ _ _ _
      | exact id
      | exact fun ⟨a, b⟩ => ⟨a, hPP _ _ _ _ _ _ _ b⟩
      | exact fun ⟨a, b⟩ => ⟨fun k => hPP _ _ _ _ _ _ _ (a k), fun k => hPP _ _ _ _ _ _ _ (b k)⟩
      | exact fun ⟨a, b⟩ => ⟨fun q hq k => hPP _ _ _ _ _ _ _ (a q hq k), fun k => hPP _ _ _ _ _ _ _ (b k)⟩
      | exact fun ⟨a, b, c, d, e⟩ => ⟨a, b, c, d, hPP _ _ _ _ _ _ _ e⟩
      | exact fun ⟨a, b, c, d⟩ => ⟨a, b, c, hPP _ _ _ _ _ _ _ d⟩
      | exact fun ⟨a, b, c, d, e, f⟩ => ⟨a, b, c, d, e, hPP _ _ _ _ _ _ _ f⟩
      | exact hC _ _ _ _ _ _ (zback_mono hPP)
      | exact fun ⟨a, b, c⟩ => ⟨a, b, hC _ _ _ _ _ _ (zback_mono hPP) c⟩
      | exact fun ⟨a, b⟩ => ⟨a, hC _ _ _ _ _ _ (zback_mono hPP) b⟩
      | exact fun ⟨a, b, c, d⟩ => ⟨a, b, c, hC _ _ _ _ _ _ (zback_mono hPP) d⟩
      | exact fun ⟨a, b, c, d⟩ => ⟨a, b, c, hC _ _ _ _ _ _ (zbackx_mono hPP) d⟩
theorem zm_i2l (nx : Nat) : zmono (zt_i2l nx) := by
  intro C R P P' hC hPP ls st h n cu su ht
  revert ht
  unfold zt_i2l
  first
    | exact hPP _ _ _ _ _ _ _
    | exact id
    | exact fun ⟨a, b⟩ => ⟨a, hPP _ _ _ _ _ _ _ b⟩
    | (repeat' split) <;> first
      | exact hPP _ _ _ _ _ _ _
      | exact id
      | exact fun ⟨a, b⟩ => ⟨a, hPP _ _ _ _ _ _ _ b⟩
      | exact fun ⟨a, b⟩ => ⟨fun k => hPP _ _ _ _ _ _ _ (a k), fun k => hPP _ _ _ _ _ _ _ (b k)⟩
      | exact fun ⟨a, b⟩ => ⟨fun q hq k => hPP _ _ _ _ _ _ _ (a q hq k), fun k => hPP _ _ _ _ _ _ _ (b k)⟩
      | exact fun ⟨a, b, c, d, e⟩ => ⟨a, b, c, d, hPP _ _ _ _ _ _ _ e⟩
      | exact fun ⟨a, b, c, d⟩ => ⟨a, b, c, hPP _ _ _ _ _ _ _ d⟩
      | exact fun ⟨a, b, c, d, e, f⟩ => ⟨a, b, c, d, e, hPP _ _ _ _ _ _ _ f⟩
      | exact hC _ _ _ _ _ _ (zback_mono hPP)
      | exact fun ⟨a, b, c⟩ => ⟨a, b, hC _ _ _ _ _ _ (zback_mono hPP) c⟩
      | exact fun ⟨a, b⟩ => ⟨a, hC _ _ _ _ _ _ (zback_mono hPP) b⟩
      | exact fun ⟨a, b, c, d⟩ => ⟨a, b, c, hC _ _ _ _ _ _ (zback_mono hPP) d⟩
      | exact fun ⟨a, b, c, d⟩ => ⟨a, b, c, hC _ _ _ _ _ _ (zbackx_mono hPP) d⟩
theorem zm_i2d (nx : Nat) : zmono (zt_i2d nx) := by
  intro C R P P' hC hPP ls st h n cu su ht
  revert ht
  unfold zt_i2d
  first
    | exact hPP _ _ _ _ _ _ _
    | exact id
    | exact fun ⟨a, b⟩ => ⟨a, hPP _ _ _ _ _ _ _ b⟩
    | (repeat' split) <;> first
      | exact hPP _ _ _ _ _ _ _
      | exact id
      | exact fun ⟨a, b⟩ => ⟨a, hPP _ _ _ _ _ _ _ b⟩
      | exact fun ⟨a, b⟩ => ⟨fun k => hPP _ _ _ _ _ _ _ (a k), fun k => hPP _ _ _ _ _ _ _ (b k)⟩
      | exact fun ⟨a, b⟩ => ⟨fun q hq k => hPP _ _ _ _ _ _ _ (a q hq k), fun k => hPP _ _ _ _ _ _ _ (b k)⟩
      | exact fun ⟨a, b, c, d, e⟩ => ⟨a, b, c, d, hPP _ _ _ _ _ _ _ e⟩
      | exact fun ⟨a, b, c, d⟩ => ⟨a, b, c, hPP _ _ _ _ _ _ _ d⟩
      | exact fun ⟨a, b, c, d, e, f⟩ => ⟨a, b, c, d, e, hPP _ _ _ _ _ _ _ f⟩
      | exact hC _ _ _ _ _ _ (zback_mono hPP)
      | exact fun ⟨a, b, c⟩ => ⟨a, b, hC _ _ _ _ _ _ (zback_mono hPP) c⟩
      | exact fun ⟨a, b⟩ => ⟨a, hC _ _ _ _ _ _ (zback_mono hPP) b⟩
      | exact fun ⟨a, b, c, d⟩ => ⟨a, b, c, hC _ _ _ _ _ _ (zback_mono hPP) d⟩
      | exact fun ⟨a, b, c, d⟩ => ⟨a, b, c, hC _ _ _ _ _ _ (zbackx_mono hPP) d⟩
theorem zm_ddiv (nx : Nat) : zmono (zt_ddiv nx) := by
  intro C R P P' hC hPP ls st h n cu su ht
  revert ht
  unfold zt_ddiv
  first
    | exact hPP _ _ _ _ _ _ _
    | exact id
    | exact fun ⟨a, b⟩ => ⟨a, hPP _ _ _ _ _ _ _ b⟩
    | (repeat' split) <;> first
      | exact hPP _ _ _ _ _ _ _
      | exact id
      | exact fun ⟨a, b⟩ => ⟨a, hPP _ _ _ _ _ _ _ b⟩
      | exact fun ⟨a, b⟩ => ⟨fun k => hPP _ _ _ _ _ _ _ (a k), fun k => hPP _ _ _ _ _ _ _ (b k)⟩
      | exact fun ⟨a, b⟩ => ⟨fun q hq k => hPP _ _ _ _ _ _ _ (a q hq k), fun k => hPP _ _ _ _ _ _ _ (b k)⟩
      | exact fun ⟨a, b, c, d, e⟩ => ⟨a, b, c, d, hPP _ _ _ _ _ _ _ e⟩
      | exact fun ⟨a, b, c, d⟩ => ⟨a, b, c, hPP _ _ _ _ _ _ _ d⟩
      | exact fun ⟨a, b, c, d, e, f⟩ => ⟨a, b, c, d, e, hPP _ _ _ _ _ _ _ f⟩
      | exact hC _ _ _ _ _ _ (zback_mono hPP)
      | exact fun ⟨a, b, c⟩ => ⟨a, b, hC _ _ _ _ _ _ (zback_mono hPP) c⟩
      | exact fun ⟨a, b⟩ => ⟨a, hC _ _ _ _ _ _ (zback_mono hPP) b⟩
      | exact fun ⟨a, b, c, d⟩ => ⟨a, b, c, hC _ _ _ _ _ _ (zback_mono hPP) d⟩
      | exact fun ⟨a, b, c, d⟩ => ⟨a, b, c, hC _ _ _ _ _ _ (zbackx_mono hPP) d⟩
theorem zm_dcmp (op : CmpOp) (nx : Nat) : zmono (zt_dcmp op nx) := by
  intro C R P P' hC hPP ls st h n cu su ht
  revert ht
  unfold zt_dcmp
  first
    | exact hPP _ _ _ _ _ _ _
    | exact id
    | exact fun ⟨a, b⟩ => ⟨a, hPP _ _ _ _ _ _ _ b⟩
    | (repeat' split) <;> first
      | exact hPP _ _ _ _ _ _ _
      | exact id
      | exact fun ⟨a, b⟩ => ⟨a, hPP _ _ _ _ _ _ _ b⟩
      | exact fun ⟨a, b⟩ => ⟨fun k => hPP _ _ _ _ _ _ _ (a k), fun k => hPP _ _ _ _ _ _ _ (b k)⟩
      | exact fun ⟨a, b⟩ => ⟨fun q hq k => hPP _ _ _ _ _ _ _ (a q hq k), fun k => hPP _ _ _ _ _ _ _ (b k)⟩
      | exact fun ⟨a, b, c, d, e⟩ => ⟨a, b, c, d, hPP _ _ _ _ _ _ _ e⟩
      | exact fun ⟨a, b, c, d⟩ => ⟨a, b, c, hPP _ _ _ _ _ _ _ d⟩
      | exact fun ⟨a, b, c, d, e, f⟩ => ⟨a, b, c, d, e, hPP _ _ _ _ _ _ _ f⟩
      | exact hC _ _ _ _ _ _ (zback_mono hPP)
      | exact fun ⟨a, b, c⟩ => ⟨a, b, hC _ _ _ _ _ _ (zback_mono hPP) c⟩
      | exact fun ⟨a, b⟩ => ⟨a, hC _ _ _ _ _ _ (zback_mono hPP) b⟩
      | exact fun ⟨a, b, c, d⟩ => ⟨a, b, c, hC _ _ _ _ _ _ (zback_mono hPP) d⟩
      | exact fun ⟨a, b, c, d⟩ => ⟨a, b, c, hC _ _ _ _ _ _ (zbackx_mono hPP) d⟩
theorem zm_leq (eq ne : Nat) : zmono (zt_leq eq ne) := by
  intro C R P P' hC hPP ls st h n cu su ht
  revert ht
  unfold zt_leq
  first
    | exact hPP _ _ _ _ _ _ _
    | exact id
    | exact fun ⟨a, b⟩ => ⟨a, hPP _ _ _ _ _ _ _ b⟩
    | (repeat' split) <;> first
      | exact hPP _ _ _ _ _ _ _
      | exact id
      | exact fun ⟨a, b⟩ => ⟨a, hPP _ _ _ _ _ _ _ b⟩
      | exact fun ⟨a, b⟩ => ⟨fun k => hPP _ _ _ _ _ _ _ (a k), fun k => hPP _ _ _ _ _ _ _ (b k)⟩
      | exact fun ⟨a, b⟩ => ⟨fun q hq k => hPP _ _ _ _ _ _ _ (a q hq k), fun k => hPP _ _ _ _ _ _ _ (b k)⟩
      | exact fun ⟨a, b, c, d, e⟩ => ⟨a, b, c, d, hPP _ _ _ _ _ _ _ e⟩
      | exact fun ⟨a, b, c, d⟩ => ⟨a, b, c, hPP _ _ _ _ _ _ _ d⟩
      | exact fun ⟨a, b, c, d, e, f⟩ => ⟨a, b, c, d, e, hPP _ _ _ _ _ _ _ f⟩
      | exact hC _ _ _ _ _ _ (zback_mono hPP)
      | exact fun ⟨a, b, c⟩ => ⟨a, b, hC _ _ _ _ _ _ (zback_mono hPP) c⟩
      | exact fun ⟨a, b⟩ => ⟨a, hC _ _ _ _ _ _ (zback_mono hPP) b⟩
      | exact fun ⟨a, b, c, d⟩ => ⟨a, b, c, hC _ _ _ _ _ _ (zback_mono hPP) d⟩
      | exact fun ⟨a, b, c, d⟩ => ⟨a, b, c, hC _ _ _ _ _ _ (zbackx_mono hPP) d⟩
theorem zm_pop (nx : Nat) : zmono (zt_pop nx) := by
  intro C R P P' hC hPP ls st h n cu su ht
  revert ht
  unfold zt_pop
  first
    | exact hPP _ _ _ _ _ _ _
    | exact id
    | exact fun ⟨a, b⟩ => ⟨a, hPP _ _ _ _ _ _ _ b⟩
    | (repeat' split) <;> first
      | exact hPP _ _ _ _ _ _ _
      | exact id
      | exact fun ⟨a, b⟩ => ⟨a, hPP _ _ _ _ _ _ _ b⟩
      | exact fun ⟨a, b⟩ => ⟨fun k => hPP _ _ _ _ _ _ _ (a k), fun k => hPP _ _ _ _ _ _ _ (b k)⟩
      | exact fun ⟨a, b⟩ => ⟨fun q hq k => hPP _ _ _ _ _ _ _ (a q hq k), fun k => hPP _ _ _ _ _ _ _ (b k)⟩
      | exact fun ⟨a, b, c, d, e⟩ => ⟨a, b, c, d, hPP _ _ _ _ _ _ _ e⟩
      | exact fun ⟨a, b, c, d⟩ => ⟨a, b, c, hPP _ _ _ _ _ _ _ d⟩
      | exact fun ⟨a, b, c, d, e, f⟩ => ⟨a, b, c, d, e, hPP _ _ _ _ _ _ _ f⟩
      | exact hC _ _ _ _ _ _ (zback_mono hPP)
      | exact fun ⟨a, b, c⟩ => ⟨a, b, hC _ _ _ _ _ _ (zback_mono hPP) c⟩
      | exact fun ⟨a, b⟩ => ⟨a, hC _ _ _ _ _ _ (zback_mono hPP) b⟩
      | exact fun ⟨a, b, c, d⟩ => ⟨a, b, c, hC _ _ _ _ _ _ (zback_mono hPP) d⟩
      | exact fun ⟨a, b, c, d⟩ => ⟨a, b, c, hC _ _ _ _ _ _ (zbackx_mono hPP) d⟩
theorem zm_dup (nx : Nat) : zmono (zt_dup nx) := by
  intro C R P P' hC hPP ls st h n cu su ht
  revert ht
  unfold zt_dup
  first
    | exact hPP _ _ _ _ _ _ _
    | exact id
    | exact fun ⟨a, b⟩ => ⟨a, hPP _ _ _ _ _ _ _ b⟩
    | (repeat' split) <;> first
      | exact hPP _ _ _ _ _ _ _
      | exact id
      | exact fun ⟨a, b⟩ => ⟨a, hPP _ _ _ _ _ _ _ b⟩
      | exact fun ⟨a, b⟩ => ⟨fun k => hPP _ _ _ _ _ _ _ (a k), fun k => hPP _ _ _ _ _ _ _ (b k)⟩
      | exact fun ⟨a, b⟩ => ⟨fun q hq k => hPP _ _ _ _ _ _ _ (a q hq k), fun k => hPP _ _ _ _ _ _ _ (b k)⟩
      | exact fun ⟨a, b, c, d, e⟩ => ⟨a, b, c, d, hPP _ _ _ _ _ _ _ e⟩
      | exact fun ⟨a, b, c, d⟩ => ⟨a, b, c, hPP _ _ _ _ _ _ _ d⟩
      | exact fun ⟨a, b, c, d, e, f⟩ => ⟨a, b, c, d, e, hPP _ _ _ _ _ _ _ f⟩
      | exact hC _ _ _ _ _ _ (zback_mono hPP)
      | exact fun ⟨a, b, c⟩ => ⟨a, b, hC _ _ _ _ _ _ (zback_mono hPP) c⟩
      | exact fun ⟨a, b⟩ => ⟨a, hC _ _ _ _ _ _ (zback_mono hPP) b⟩
      | exact fun ⟨a, b, c, d⟩ => ⟨a, b, c, hC _ _ _ _ _ _ (zback_mono hPP) d⟩
      | exact fun ⟨a, b, c, d⟩ => ⟨a, b, c, hC _ _ _ _ _ _ (zbackx_mono hPP) d⟩
theorem zm_dup2 (nx : Nat) : zmono (zt_dup2 nx) := by
  intro C R P P' hC hPP ls st h n cu su ht
  revert ht
  unfold zt_dup2
  first
    | exact hPP _ _ _ _ _ _ _
    | exact id
    | exact fun ⟨a, b⟩ => ⟨a, hPP _ _ _ _ _ _ _ b⟩
    | (repeat' split) <;> first
      | exact hPP _ _ _ _ _ _ _
      | exact id
      | exact fun ⟨a, b⟩ => ⟨a, hPP _ _ _ _ _ _ _ b⟩
      | exact fun ⟨a, b⟩ => ⟨fun k => hPP _ _ _ _ _ _ _ (a k), fun k => hPP _ _ _ _ _ _ _ (b k)⟩
      | exact fun ⟨a, b⟩ => ⟨fun q hq k => hPP _ _ _ _ _ _ _ (a q hq k), fun k => hPP _ _ _ _ _ _ _ (b k)⟩
      | exact fun ⟨a, b, c, d, e⟩ => ⟨a, b, c, d, hPP _ _ _ _ _ _ _ e⟩
      | exact fun ⟨a, b, c, d⟩ => ⟨a, b, c, hPP _ _ _ _ _ _ _ d⟩
      | exact fun ⟨a, b, c, d, e, f⟩ => ⟨a, b, c, d, e, hPP _ _ _ _ _ _ _ f⟩
      | exact hC _ _ _ _ _ _ (zback_mono hPP)
      | exact fun ⟨a, b, c⟩ => ⟨a, b, hC _ _ _ _ _ _ (zback_mono hPP) c⟩
      | exact fun ⟨a, b⟩ => ⟨a, hC _ _ _ _ _ _ (zback_mono hPP) b⟩
      | exact fun ⟨a, b, c, d⟩ => ⟨a, b, c, hC _ _ _ _ _ _ (zback_mono hPP) d⟩
      | exact fun ⟨a, b, c, d⟩ => ⟨a, b, c, hC _ _ _ _ _ _ (zbackx_mono hPP) d⟩
theorem zm_goto (tgt : Nat) (cl : List Nat) : zmono (zt_goto tgt cl) := by
  intro C R P P' hC hPP ls st h n cu su ht
  revert ht
  unfold zt_goto
  first
    | exact hPP _ _ _ _ _ _ _
    | exact id
    | exact fun ⟨a, b⟩ => ⟨a, hPP _ _ _ _ _ _ _ b⟩
    | (repeat' split) <;> first
      | exact hPP _ _ _ _ _ _ _
      | exact id
      | exact fun ⟨a, b⟩ => ⟨a, hPP _ _ _ _ _ _ _ b⟩
      | exact fun ⟨a, b⟩ => ⟨fun k => hPP _ _ _ _ _ _ _ (a k), fun k => hPP _ _ _ _ _ _ _ (b k)⟩
      | exact fun ⟨a, b⟩ => ⟨fun q hq k => hPP _ _ _ _ _ _ _ (a q hq k), fun k => hPP _ _ _ _ _ _ _ (b k)⟩
      | exact fun ⟨a, b, c, d, e⟩ => ⟨a, b, c, d, hPP _ _ _ _ _ _ _ e⟩
      | exact fun ⟨a, b, c, d⟩ => ⟨a, b, c, hPP _ _ _ _ _ _ _ d⟩
      | exact fun ⟨a, b, c, d, e, f⟩ => ⟨a, b, c, d, e, hPP _ _ _ _ _ _ _ f⟩
      | exact hC _ _ _ _ _ _ (zback_mono hPP)
      | exact fun ⟨a, b, c⟩ => ⟨a, b, hC _ _ _ _ _ _ (zback_mono hPP) c⟩
      | exact fun ⟨a, b⟩ => ⟨a, hC _ _ _ _ _ _ (zback_mono hPP) b⟩
      | exact fun ⟨a, b, c, d⟩ => ⟨a, b, c, hC _ _ _ _ _ _ (zback_mono hPP) d⟩
      | exact fun ⟨a, b, c, d⟩ => ⟨a, b, c, hC _ _ _ _ _ _ (zbackx_mono hPP) d⟩
theorem zm_ifeq (tgt nx : Nat) : zmono (zt_ifeq tgt nx) := by
  intro C R P P' hC hPP ls st h n cu su ht
  revert ht
  unfold zt_ifeq
  first
    | exact hPP _ _ _ _ _ _ _
    | exact id
    | exact fun ⟨a, b⟩ => ⟨a, hPP _ _ _ _ _ _ _ b⟩
    | (repeat' split) <;> first
      | exact hPP _ _ _ _ _ _ _
      | exact id
      | exact fun ⟨a, b⟩ => ⟨a, hPP _ _ _ _ _ _ _ b⟩
      | exact fun ⟨a, b⟩ => ⟨fun k => hPP _ _ _ _ _ _ _ (a k), fun k => hPP _ _ _ _ _ _ _ (b k)⟩
      | exact fun ⟨a, b⟩ => ⟨fun q hq k => hPP _ _ _ _ _ _ _ (a q hq k), fun k => hPP _ _ _ _ _ _ _ (b k)⟩
      | exact fun ⟨a, b, c, d, e⟩ => ⟨a, b, c, d, hPP _ _ _ _ _ _ _ e⟩
      | exact fun ⟨a, b, c, d⟩ => ⟨a, b, c, hPP _ _ _ _ _ _ _ d⟩
      | exact fun ⟨a, b, c, d, e, f⟩ => ⟨a, b, c, d, e, hPP _ _ _ _ _ _ _ f⟩
      | exact hC _ _ _ _ _ _ (zback_mono hPP)
      | exact fun ⟨a, b, c⟩ => ⟨a, b, hC _ _ _ _ _ _ (zback_mono hPP) c⟩
      | exact fun ⟨a, b⟩ => ⟨a, hC _ _ _ _ _ _ (zback_mono hPP) b⟩
      | exact fun ⟨a, b, c, d⟩ => ⟨a, b, c, hC _ _ _ _ _ _ (zback_mono hPP) d⟩
      | exact fun ⟨a, b, c, d⟩ => ⟨a, b, c, hC _ _ _ _ _ _ (zbackx_mono hPP) d⟩
theorem zm_ifne (tgt nx : Nat) : zmono (zt_ifne tgt nx) := by
  intro C R P P' hC hPP ls st h n cu su ht
  revert ht
  unfold zt_ifne
  first
    | exact hPP _ _ _ _ _ _ _
    | exact id
    | exact fun ⟨a, b⟩ => ⟨a, hPP _ _ _ _ _ _ _ b⟩
    | (repeat' split) <;> first
      | exact hPP _ _ _ _ _ _ _
      | exact id
      | exact fun ⟨a, b⟩ => ⟨a, hPP _ _ _ _ _ _ _ b⟩
      | exact fun ⟨a, b⟩ => ⟨fun k => hPP _ _ _ _ _ _ _ (a k), fun k => hPP _ _ _ _ _ _ _ (b k)⟩
      | exact fun ⟨a, b⟩ => ⟨fun q hq k => hPP _ _ _ _ _ _ _ (a q hq k), fun k => hPP _ _ _ _ _ _ _ (b k)⟩
      | exact fun ⟨a, b, c, d, e⟩ => ⟨a, b, c, d, hPP _ _ _ _ _ _ _ e⟩
      | exact fun ⟨a, b, c, d⟩ => ⟨a, b, c, hPP _ _ _ _ _ _ _ d⟩
      | exact fun ⟨a, b, c, d, e, f⟩ => ⟨a, b, c, d, e, hPP _ _ _ _ _ _ _ f⟩
      | exact hC _ _ _ _ _ _ (zback_mono hPP)
      | exact fun ⟨a, b, c⟩ => ⟨a, b, hC _ _ _ _ _ _ (zback_mono hPP) c⟩
      | exact fun ⟨a, b⟩ => ⟨a, hC _ _ _ _ _ _ (zback_mono hPP) b⟩
      | exact fun ⟨a, b, c, d⟩ => ⟨a, b, c, hC _ _ _ _ _ _ (zback_mono hPP) d⟩
      | exact fun ⟨a, b, c, d⟩ => ⟨a, b, c, hC _ _ _ _ _ _ (zbackx_mono hPP) d⟩
theorem zm_iflt (tgt nx : Nat) : zmono (zt_iflt tgt nx) := by
  intro C R P P' hC hPP ls st h n cu su ht
  revert ht
  unfold zt_iflt
  first
    | exact hPP _ _ _ _ _ _ _
    | exact id
    | exact fun ⟨a, b⟩ => ⟨a, hPP _ _ _ _ _ _ _ b⟩
    | (repeat' split) <;> first
      | exact hPP _ _ _ _ _ _ _
      | exact id
      | exact fun ⟨a, b⟩ => ⟨a, hPP _ _ _ _ _ _ _ b⟩
      | exact fun ⟨a, b⟩ => ⟨fun k => hPP _ _ _ _ _ _ _ (a k), fun k => hPP _ _ _ _ _ _ _ (b k)⟩
      | exact fun ⟨a, b⟩ => ⟨fun q hq k => hPP _ _ _ _ _ _ _ (a q hq k), fun k => hPP _ _ _ _ _ _ _ (b k)⟩
      | exact fun ⟨a, b, c, d, e⟩ => ⟨a, b, c, d, hPP _ _ _ _ _ _ _ e⟩
      | exact fun ⟨a, b, c, d⟩ => ⟨a, b, c, hPP _ _ _ _ _ _ _ d⟩
      | exact fun ⟨a, b, c, d, e, f⟩ => ⟨a, b, c, d, e, hPP _ _ _ _ _ _ _ f⟩
      | exact hC _ _ _ _ _ _ (zback_mono hPP)
      | exact fun ⟨a, b, c⟩ => ⟨a, b, hC _ _ _ _ _ _ (zback_mono hPP) c⟩
      | exact fun ⟨a, b⟩ => ⟨a, hC _ _ _ _ _ _ (zback_mono hPP) b⟩
      | exact fun ⟨a, b, c, d⟩ => ⟨a, b, c, hC _ _ _ _ _ _ (zback_mono hPP) d⟩
      | exact fun ⟨a, b, c, d⟩ => ⟨a, b, c, hC _ _ _ _ _ _ (zbackx_mono hPP) d⟩
theorem zm_ifle (tgt nx : Nat) : zmono (zt_ifle tgt nx) := by
  intro C R P P' hC hPP ls st h n cu su ht
  revert ht
  unfold zt_ifle
  first
    | exact hPP _ _ _ _ _ _ _
    | exact id
    | exact fun ⟨a, b⟩ => ⟨a, hPP _ _ _ _ _ _ _ b⟩
    | (repeat' split) <;> first
      | exact hPP _ _ _ _ _ _ _
      | exact id
      | exact fun ⟨a, b⟩ => ⟨a, hPP _ _ _ _ _ _ _ b⟩
      | exact fun ⟨a, b⟩ => ⟨fun k => hPP _ _ _ _ _ _ _ (a k), fun k => hPP _ _ _ _ _ _ _ (b k)⟩
      | exact fun ⟨a, b⟩ => ⟨fun q hq k => hPP _ _ _ _ _ _ _ (a q hq k), fun k => hPP _ _ _ _ _ _ _ (b k)⟩
      | exact fun ⟨a, b, c, d, e⟩ => ⟨a, b, c, d, hPP _ _ _ _ _ _ _ e⟩
      | exact fun ⟨a, b, c, d⟩ => ⟨a, b, c, hPP _ _ _ _ _ _ _ d⟩
      | exact fun ⟨a, b, c, d, e, f⟩ => ⟨a, b, c, d, e, hPP _ _ _ _ _ _ _ f⟩
      | exact hC _ _ _ _ _ _ (zback_mono hPP)
      | exact fun ⟨a, b, c⟩ => ⟨a, b, hC _ _ _ _ _ _ (zback_mono hPP) c⟩
      | exact fun ⟨a, b⟩ => ⟨a, hC _ _ _ _ _ _ (zback_mono hPP) b⟩
      | exact fun ⟨a, b, c, d⟩ => ⟨a, b, c, hC _ _ _ _ _ _ (zback_mono hPP) d⟩
      | exact fun ⟨a, b, c, d⟩ => ⟨a, b, c, hC _ _ _ _ _ _ (zbackx_mono hPP) d⟩
theorem zm_ifgt (tgt nx : Nat) : zmono (zt_ifgt tgt nx) := by
  intro C R P P' hC hPP ls st h n cu su ht
  revert ht
  unfold zt_ifgt
  first
    | exact hPP _ _ _ _ _ _ _
    | exact id
    | exact fun ⟨a, b⟩ => ⟨a, hPP _ _ _ _ _ _ _ b⟩
    | (repeat' split) <;> first
      | exact hPP _ _ _ _ _ _ _
      | exact id
      | exact fun ⟨a, b⟩ => ⟨a, hPP _ _ _ _ _ _ _ b⟩
      | exact fun ⟨a, b⟩ => ⟨fun k => hPP _ _ _ _ _ _ _ (a k), fun k => hPP _ _ _ _ _ _ _ (b k)⟩
      | exact fun ⟨a, b⟩ => ⟨fun q hq k => hPP _ _ _ _ _ _ _ (a q hq k), fun k => hPP _ _ _ _ _ _ _ (b k)⟩
      | exact fun ⟨a, b, c, d, e⟩ => ⟨a, b, c, d, hPP _ _ _ _ _ _ _ e⟩
      | exact fun ⟨a, b, c, d⟩ => ⟨a, b, c, hPP _ _ _ _ _ _ _ d⟩
      | exact fun ⟨a, b, c, d, e, f⟩ => ⟨a, b, c, d, e, hPP _ _ _ _ _ _ _ f⟩
      | exact hC _ _ _ _ _ _ (zback_mono hPP)
      | exact fun ⟨a, b, c⟩ => ⟨a, b, hC _ _ _ _ _ _ (zback_mono hPP) c⟩
      | exact fun ⟨a, b⟩ => ⟨a, hC _ _ _ _ _ _ (zback_mono hPP) b⟩
      | exact fun ⟨a, b, c, d⟩ => ⟨a, b, c, hC _ _ _ _ _ _ (zback_mono hPP) d⟩
      | exact fun ⟨a, b, c, d⟩ => ⟨a, b, c, hC _ _ _ _ _ _ (zbackx_mono hPP) d⟩
theorem zm_ifge (tgt nx : Nat) : zmono (zt_ifge tgt nx) := by
  intro C R P P' hC hPP ls st h n cu su ht
  revert ht
  unfold zt_ifge
  first
    | exact hPP _ _ _ _ _ _ _
    | exact id
    | exact fun ⟨a, b⟩ => ⟨a, hPP _ _ _ _ _ _ _ b⟩
    | (repeat' split) <;> first
      | exact hPP _ _ _ _ _ _ _
      | exact id
      | exact fun ⟨a, b⟩ => ⟨a, hPP _ _ _ _ _ _ _ b⟩
      | exact fun ⟨a, b⟩ => ⟨fun k => hPP _ _ _ _ _ _ _ (a k), fun k => hPP _ _ _ _ _ _ _ (b k)⟩
      | exact fun ⟨a, b⟩ => ⟨fun q hq k => hPP _ _ _ _ _ _ _ (a q hq k), fun k => hPP _ _ _ _ _ _ _ (b k)⟩
      | exact fun ⟨a, b, c, d, e⟩ => ⟨a, b, c, d, hPP _ _ _ _ _ _ _ e⟩
      | exact fun ⟨a, b, c, d⟩ => ⟨a, b, c, hPP _ _ _ _ _ _ _ d⟩
      | exact fun ⟨a, b, c, d, e, f⟩ => ⟨a, b, c, d, e, hPP _ _ _ _ _ _ _ f⟩
      | exact hC _ _ _ _ _ _ (zback_mono hPP)
      | exact fun ⟨a, b, c⟩ => ⟨a, b, hC _ _ _ _ _ _ (zback_mono hPP) c⟩
      | exact fun ⟨a, b⟩ => ⟨a, hC _ _ _ _ _ _ (zback_mono hPP) b⟩
      | exact fun ⟨a, b, c, d⟩ => ⟨a, b, c, hC _ _ _ _ _ _ (zback_mono hPP) d⟩
      | exact fun ⟨a, b, c, d⟩ => ⟨a, b, c, hC _ _ _ _ _ _ (zbackx_mono hPP) d⟩
theorem zm_icmpeq (tgt nx : Nat) : zmono (zt_icmpeq tgt nx) := by
  intro C R P P' hC hPP ls st h n cu su ht
  revert ht
  unfold zt_icmpeq
  first
    | exact hPP _ _ _ _ _ _ _
    | exact id
    | exact fun ⟨a, b⟩ => ⟨a, hPP _ _ _ _ _ _ _ b⟩
    | (repeat' split) <;> first
      | exact hPP _ _ _ _ _ _ _
      | exact id
      | exact fun ⟨a, b⟩ => ⟨a, hPP _ _ _ _ _ _ _ b⟩
      | exact fun ⟨a, b⟩ => ⟨fun k => hPP _ _ _ _ _ _ _ (a k), fun k => hPP _ _ _ _ _ _ _ (b k)⟩
      | exact fun ⟨a, b⟩ => ⟨fun q hq k => hPP _ _ _ _ _ _ _ (a q hq k), fun k => hPP _ _ _ _ _ _ _ (b k)⟩
      | exact fun ⟨a, b, c, d, e⟩ => ⟨a, b, c, d, hPP _ _ _ _ _ _ _ e⟩
      | exact fun ⟨a, b, c, d⟩ => ⟨a, b, c, hPP _ _ _ _ _ _ _ d⟩
      | exact fun ⟨a, b, c, d, e, f⟩ => ⟨a, b, c, d, e, hPP _ _ _ _ _ _ _ f⟩
      | exact hC _ _ _ _ _ _ (zback_mono hPP)
      | exact fun ⟨a, b, c⟩ => ⟨a, b, hC _ _ _ _ _ _ (zback_mono hPP) c⟩
      | exact fun ⟨a, b⟩ => ⟨a, hC _ _ _ _ _ _ (zback_mono hPP) b⟩
      | exact fun ⟨a, b, c, d⟩ => ⟨a, b, c, hC _ _ _ _ _ _ (zback_mono hPP) d⟩
      | exact fun ⟨a, b, c, d⟩ => ⟨a, b, c, hC _ _ _ _ _ _ (zbackx_mono hPP) d⟩
theorem zm_icmpne (tgt nx : Nat) : zmono (zt_icmpne tgt nx) := by
  intro C R P P' hC hPP ls st h n cu su ht
  revert ht
  unfold zt_icmpne
  first
    | exact hPP _ _ _ _ _ _ _
    | exact id
    | exact fun ⟨a, b⟩ => ⟨a, hPP _ _ _ _ _ _ _ b⟩
    | (repeat' split) <;> first
      | exact hPP _ _ _ _ _ _ _
      | exact id
      | exact fun ⟨a, b⟩ => ⟨a, hPP _ _ _ _ _ _ _ b⟩
      | exact fun ⟨a, b⟩ => ⟨fun k => hPP _ _ _ _ _ _ _ (a k), fun k => hPP _ _ _ _ _ _ _ (b k)⟩
      | exact fun ⟨a, b⟩ => ⟨fun q hq k => hPP _ _ _ _ _ _ _ (a q hq k), fun k => hPP _ _ _ _ _ _ _ (b k)⟩
      | exact fun ⟨a, b, c, d, e⟩ => ⟨a, b, c, d, hPP _ _ _ _ _ _ _ e⟩
      | exact fun ⟨a, b, c, d⟩ => ⟨a, b, c, hPP _ _ _ _ _ _ _ d⟩
      | exact fun ⟨a, b, c, d, e, f⟩ => ⟨a, b, c, d, e, hPP _ _ _ _ _ _ _ f⟩
      | exact hC _ _ _ _ _ _ (zback_mono hPP)
      | exact fun ⟨a, b, c⟩ => ⟨a, b, hC _ _ _ _ _ _ (zback_mono hPP) c⟩
      | exact fun ⟨a, b⟩ => ⟨a, hC _ _ _ _ _ _ (zback_mono hPP) b⟩
      | exact fun ⟨a, b, c, d⟩ => ⟨a, b, c, hC _ _ _ _ _ _ (zback_mono hPP) d⟩
      | exact fun ⟨a, b, c, d⟩ => ⟨a, b, c, hC _ _ _ _ _ _ (zbackx_mono hPP) d⟩
theorem zm_icmplt (tgt nx : Nat) : zmono (zt_icmplt tgt nx) := by
  intro C R P P' hC hPP ls st h n cu su ht
  revert ht
  unfold zt_icmplt
  first
    | exact hPP _ _ _ _ _ _ _
    | exact id
    | exact fun ⟨a, b⟩ => ⟨a, hPP _ _ _ _ _ _ _ b⟩
    | (repeat' split) <;> first
      | exact hPP _ _ _ _ _ _ _
      | exact id
      | exact fun ⟨a, b⟩ => ⟨a, hPP _ _ _ _ _ _ _ b⟩
      | exact fun ⟨a, b⟩ => ⟨fun k => hPP _ _ _ _ _ _ _ (a k), fun k => hPP _ _ _ _ _ _ _ (b k)⟩
      | exact fun ⟨a, b⟩ => ⟨fun q hq k => hPP _ _ _ _ _ _ _ (a q hq k), fun k => hPP _ _ _ _ _ _ _ (b k)⟩
      | exact fun ⟨a, b, c, d, e⟩ => ⟨a, b, c, d, hPP _ _ _ _ _ _ _ e⟩
      | exact fun ⟨a, b, c, d⟩ => ⟨a, b, c, hPP _ _ _ _ _ _ _ d⟩
      | exact fun ⟨a, b, c, d, e, f⟩ => ⟨a, b, c, d, e, hPP _ _ _ _ _ _ _ f⟩
      | exact hC _ _ _ _ _ _ (zback_mono hPP)
      | exact fun ⟨a, b, c⟩ => ⟨a, b, hC _ _ _ _ _ _ (zback_mono hPP) c⟩
      | exact fun ⟨a, b⟩ => ⟨a, hC _ _ _ _ _ _ (zback_mono hPP) b⟩
      | exact fun ⟨a, b, c, d⟩ => ⟨a, b, c, hC _ _ _ _ _ _ (zback_mono hPP) d⟩
      | exact fun ⟨a, b, c, d⟩ => ⟨a, b, c, hC _ _ _ _ _ _ (zbackx_mono hPP) d⟩
theorem zm_icmpge (tgt nx : Nat) : zmono (zt_icmpge tgt nx) := by
  intro C R P P' hC hPP ls st h n cu su ht
  revert ht
  unfold zt_icmpge
  first
    | exact hPP _ _ _ _ _ _ _
    | exact id
    | exact fun ⟨a, b⟩ => ⟨a, hPP _ _ _ _ _ _ _ b⟩
    | (repeat' split) <;> first
      | exact hPP _ _ _ _ _ _ _
      | exact id
      | exact fun ⟨a, b⟩ => ⟨a, hPP _ _ _ _ _ _ _ b⟩
      | exact fun ⟨a, b⟩ => ⟨fun k => hPP _ _ _ _ _ _ _ (a k), fun k => hPP _ _ _ _ _ _ _ (b k)⟩
      | exact fun ⟨a, b⟩ => ⟨fun q hq k => hPP _ _ _ _ _ _ _ (a q hq k), fun k => hPP _ _ _ _ _ _ _ (b k)⟩
      | exact fun ⟨a, b, c, d, e⟩ => ⟨a, b, c, d, hPP _ _ _ _ _ _ _ e⟩
      | exact fun ⟨a, b, c, d⟩ => ⟨a, b, c, hPP _ _ _ _ _ _ _ d⟩
      | exact fun ⟨a, b, c, d, e, f⟩ => ⟨a, b, c, d, e, hPP _ _ _ _ _ _ _ f⟩
      | exact hC _ _ _ _ _ _ (zback_mono hPP)
      | exact fun ⟨a, b, c⟩ => ⟨a, b, hC _ _ _ _ _ _ (zback_mono hPP) c⟩
      | exact fun ⟨a, b⟩ => ⟨a, hC _ _ _ _ _ _ (zback_mono hPP) b⟩
      | exact fun ⟨a, b, c, d⟩ => ⟨a, b, c, hC _ _ _ _ _ _ (zback_mono hPP) d⟩
      | exact fun ⟨a, b, c, d⟩ => ⟨a, b, c, hC _ _ _ _ _ _ (zbackx_mono hPP) d⟩
theorem zm_icmpgt (tgt nx : Nat) : zmono (zt_icmpgt tgt nx) := by
  intro C R P P' hC hPP ls st h n cu su ht
  revert ht
  unfold zt_icmpgt
  first
    | exact hPP _ _ _ _ _ _ _
    | exact id
    | exact fun ⟨a, b⟩ => ⟨a, hPP _ _ _ _ _ _ _ b⟩
    | (repeat' split) <;> first
      | exact hPP _ _ _ _ _ _ _
      | exact id
      | exact fun ⟨a, b⟩ => ⟨a, hPP _ _ _ _ _ _ _ b⟩
      | exact fun ⟨a, b⟩ => ⟨fun k => hPP _ _ _ _ _ _ _ (a k), fun k => hPP _ _ _ _ _ _ _ (b k)⟩
      | exact fun ⟨a, b⟩ => ⟨fun q hq k => hPP _ _ _ _ _ _ _ (a q hq k), fun k => hPP _ _ _ _ _ _ _ (b k)⟩
      | exact fun ⟨a, b, c, d, e⟩ => ⟨a, b, c, d, hPP _ _ _ _ _ _ _ e⟩
      | exact fun ⟨a, b, c, d⟩ => ⟨a, b, c, hPP _ _ _ _ _ _ _ d⟩
      | exact fun ⟨a, b, c, d, e, f⟩ => ⟨a, b, c, d, e, hPP _ _ _ _ _ _ _ f⟩
      | exact hC _ _ _ _ _ _ (zback_mono hPP)
      | exact fun ⟨a, b, c⟩ => ⟨a, b, hC _ _ _ _ _ _ (zback_mono hPP) c⟩
      | exact fun ⟨a, b⟩ => ⟨a, hC _ _ _ _ _ _ (zback_mono hPP) b⟩
      | exact fun ⟨a, b, c, d⟩ => ⟨a, b, c, hC _ _ _ _ _ _ (zback_mono hPP) d⟩
      | exact fun ⟨a, b, c, d⟩ => ⟨a, b, c, hC _ _ _ _ _ _ (zbackx_mono hPP) d⟩
theorem zm_icmple (tgt nx : Nat) : zmono (zt_icmple tgt nx) := by
  intro C R P P' hC hPP ls st h n cu su ht
  revert ht
  unfold zt_icmple
  first
    | exact hPP _ _ _ _ _ _ _
    | exact id
    | exact fun ⟨a, b⟩ => ⟨a, hPP _ _ _ _ _ _ _ b⟩
    | (repeat' split) <;> first
      | exact hPP _ _ _ _ _ _ _
      | exact id
      | exact fun ⟨a, b⟩ => ⟨a, hPP _ _ _ _ _ _ _ b⟩
      | exact fun ⟨a, b⟩ => ⟨fun k => hPP _ _ _ _ _ _ _ (a k), fun k => hPP _ _ _ _ _ _ _ (b k)⟩
      | exact fun ⟨a, b⟩ => ⟨fun q hq k => hPP _ _ _ _ _ _ _ (a q hq k), fun k => hPP _ _ _ _ _ _ _ (b k)⟩
      | exact fun ⟨a, b, c, d, e⟩ => ⟨a, b, c, d, hPP _ _ _ _ _ _ _ e⟩
      | exact fun ⟨a, b, c, d⟩ => ⟨a, b, c, hPP _ _ _ _ _ _ _ d⟩
      | exact fun ⟨a, b, c, d, e, f⟩ => ⟨a, b, c, d, e, hPP _ _ _ _ _ _ _ f⟩
      | exact hC _ _ _ _ _ _ (zback_mono hPP)
      | exact fun ⟨a, b, c⟩ => ⟨a, b, hC _ _ _ _ _ _ (zback_mono hPP) c⟩
      | exact fun ⟨a, b⟩ => ⟨a, hC _ _ _ _ _ _ (zback_mono hPP) b⟩
      | exact fun ⟨a, b, c, d⟩ => ⟨a, b, c, hC _ _ _ _ _ _ (zback_mono hPP) d⟩
      | exact fun ⟨a, b, c, d⟩ => ⟨a, b, c, hC _ _ _ _ _ _ (zbackx_mono hPP) d⟩
theorem zm_ifnull (nx : Nat) : zmono (zt_ifnull nx) := by
  intro C R P P' hC hPP ls st h n cu su ht
  revert ht
  unfold zt_ifnull
  first
    | exact hPP _ _ _ _ _ _ _
    | exact id
    | exact fun ⟨a, b⟩ => ⟨a, hPP _ _ _ _ _ _ _ b⟩
    | (repeat' split) <;> first
      | exact hPP _ _ _ _ _ _ _
      | exact id
      | exact fun ⟨a, b⟩ => ⟨a, hPP _ _ _ _ _ _ _ b⟩
      | exact fun ⟨a, b⟩ => ⟨fun k => hPP _ _ _ _ _ _ _ (a k), fun k => hPP _ _ _ _ _ _ _ (b k)⟩
      | exact fun ⟨a, b⟩ => ⟨fun q hq k => hPP _ _ _ _ _ _ _ (a q hq k), fun k => hPP _ _ _ _ _ _ _ (b k)⟩
      | exact fun ⟨a, b, c, d, e⟩ => ⟨a, b, c, d, hPP _ _ _ _ _ _ _ e⟩
      | exact fun ⟨a, b, c, d⟩ => ⟨a, b, c, hPP _ _ _ _ _ _ _ d⟩
      | exact fun ⟨a, b, c, d, e, f⟩ => ⟨a, b, c, d, e, hPP _ _ _ _ _ _ _ f⟩
      | exact hC _ _ _ _ _ _ (zback_mono hPP)
      | exact fun ⟨a, b, c⟩ => ⟨a, b, hC _ _ _ _ _ _ (zback_mono hPP) c⟩
      | exact fun ⟨a, b⟩ => ⟨a, hC _ _ _ _ _ _ (zback_mono hPP) b⟩
      | exact fun ⟨a, b, c, d⟩ => ⟨a, b, c, hC _ _ _ _ _ _ (zback_mono hPP) d⟩
      | exact fun ⟨a, b, c, d⟩ => ⟨a, b, c, hC _ _ _ _ _ _ (zbackx_mono hPP) d⟩
theorem zm_lookup (ps : List (Int32 × Nat)) (dflt : Nat) : zmono (zt_lookup ps dflt) := by
  intro C R P P' hC hPP ls st h n cu su ht
  revert ht
  unfold zt_lookup
  first
    | exact hPP _ _ _ _ _ _ _
    | exact id
    | exact fun ⟨a, b⟩ => ⟨a, hPP _ _ _ _ _ _ _ b⟩
    | (repeat' split) <;> first
      | exact hPP _ _ _ _ _ _ _
      | exact id
      | exact fun ⟨a, b⟩ => ⟨a, hPP _ _ _ _ _ _ _ b⟩
      | exact fun ⟨a, b⟩ => ⟨fun k => hPP _ _ _ _ _ _ _ (a k), fun k => hPP _ _ _ _ _ _ _ (b k)⟩
      | exact fun ⟨a, b⟩ => ⟨fun q hq k => hPP _ _ _ _ _ _ _ (a q hq k), fun k => hPP _ _ _ _ _ _ _ (b k)⟩
      | exact fun ⟨a, b, c, d, e⟩ => ⟨a, b, c, d, hPP _ _ _ _ _ _ _ e⟩
      | exact fun ⟨a, b, c, d⟩ => ⟨a, b, c, hPP _ _ _ _ _ _ _ d⟩
      | exact fun ⟨a, b, c, d, e, f⟩ => ⟨a, b, c, d, e, hPP _ _ _ _ _ _ _ f⟩
      | exact hC _ _ _ _ _ _ (zback_mono hPP)
      | exact fun ⟨a, b, c⟩ => ⟨a, b, hC _ _ _ _ _ _ (zback_mono hPP) c⟩
      | exact fun ⟨a, b⟩ => ⟨a, hC _ _ _ _ _ _ (zback_mono hPP) b⟩
      | exact fun ⟨a, b, c, d⟩ => ⟨a, b, c, hC _ _ _ _ _ _ (zback_mono hPP) d⟩
      | exact fun ⟨a, b, c, d⟩ => ⟨a, b, c, hC _ _ _ _ _ _ (zbackx_mono hPP) d⟩
theorem zm_getf (ci k nx : Nat) : zmono (zt_getf ci k nx) := by
  intro C R P P' hC hPP ls st h n cu su ht
  revert ht
  unfold zt_getf
  first
    | exact hPP _ _ _ _ _ _ _
    | exact id
    | exact fun ⟨a, b⟩ => ⟨a, hPP _ _ _ _ _ _ _ b⟩
    | (repeat' split) <;> first
      | exact hPP _ _ _ _ _ _ _
      | exact id
      | exact fun ⟨a, b⟩ => ⟨a, hPP _ _ _ _ _ _ _ b⟩
      | exact fun ⟨a, b⟩ => ⟨fun k => hPP _ _ _ _ _ _ _ (a k), fun k => hPP _ _ _ _ _ _ _ (b k)⟩
      | exact fun ⟨a, b⟩ => ⟨fun q hq k => hPP _ _ _ _ _ _ _ (a q hq k), fun k => hPP _ _ _ _ _ _ _ (b k)⟩
      | exact fun ⟨a, b, c, d, e⟩ => ⟨a, b, c, d, hPP _ _ _ _ _ _ _ e⟩
      | exact fun ⟨a, b, c, d⟩ => ⟨a, b, c, hPP _ _ _ _ _ _ _ d⟩
      | exact fun ⟨a, b, c, d, e, f⟩ => ⟨a, b, c, d, e, hPP _ _ _ _ _ _ _ f⟩
      | exact hC _ _ _ _ _ _ (zback_mono hPP)
      | exact fun ⟨a, b, c⟩ => ⟨a, b, hC _ _ _ _ _ _ (zback_mono hPP) c⟩
      | exact fun ⟨a, b⟩ => ⟨a, hC _ _ _ _ _ _ (zback_mono hPP) b⟩
      | exact fun ⟨a, b, c, d⟩ => ⟨a, b, c, hC _ _ _ _ _ _ (zback_mono hPP) d⟩
      | exact fun ⟨a, b, c, d⟩ => ⟨a, b, c, hC _ _ _ _ _ _ (zbackx_mono hPP) d⟩
theorem zm_putf (ci k : Nat) (ty : FieldType) (nx : Nat) : zmono (zt_putf ci k ty nx) := by
  intro C R P P' hC hPP ls st h n cu su ht
  revert ht
  unfold zt_putf
  first
    | exact hPP _ _ _ _ _ _ _
    | exact id
    | exact fun ⟨a, b⟩ => ⟨a, hPP _ _ _ _ _ _ _ b⟩
    | (repeat' split) <;> first
      | exact hPP _ _ _ _ _ _ _
      | exact id
      | exact fun ⟨a, b⟩ => ⟨a, hPP _ _ _ _ _ _ _ b⟩
      | exact fun ⟨a, b⟩ => ⟨fun k => hPP _ _ _ _ _ _ _ (a k), fun k => hPP _ _ _ _ _ _ _ (b k)⟩
      | exact fun ⟨a, b⟩ => ⟨fun q hq k => hPP _ _ _ _ _ _ _ (a q hq k), fun k => hPP _ _ _ _ _ _ _ (b k)⟩
      | exact fun ⟨a, b, c, d, e⟩ => ⟨a, b, c, d, hPP _ _ _ _ _ _ _ e⟩
      | exact fun ⟨a, b, c, d⟩ => ⟨a, b, c, hPP _ _ _ _ _ _ _ d⟩
      | exact fun ⟨a, b, c, d, e, f⟩ => ⟨a, b, c, d, e, hPP _ _ _ _ _ _ _ f⟩
      | exact hC _ _ _ _ _ _ (zback_mono hPP)
      | exact fun ⟨a, b, c⟩ => ⟨a, b, hC _ _ _ _ _ _ (zback_mono hPP) c⟩
      | exact fun ⟨a, b⟩ => ⟨a, hC _ _ _ _ _ _ (zback_mono hPP) b⟩
      | exact fun ⟨a, b, c, d⟩ => ⟨a, b, c, hC _ _ _ _ _ _ (zback_mono hPP) d⟩
      | exact fun ⟨a, b, c, d⟩ => ⟨a, b, c, hC _ _ _ _ _ _ (zbackx_mono hPP) d⟩
theorem zm_iald (nx : Nat) : zmono (zt_iald nx) := by
  intro C R P P' hC hPP ls st h n cu su ht
  revert ht
  unfold zt_iald
  first
    | exact hPP _ _ _ _ _ _ _
    | exact id
    | exact fun ⟨a, b⟩ => ⟨a, hPP _ _ _ _ _ _ _ b⟩
    | (repeat' split) <;> first
      | exact hPP _ _ _ _ _ _ _
      | exact id
      | exact fun ⟨a, b⟩ => ⟨a, hPP _ _ _ _ _ _ _ b⟩
      | exact fun ⟨a, b⟩ => ⟨fun k => hPP _ _ _ _ _ _ _ (a k), fun k => hPP _ _ _ _ _ _ _ (b k)⟩
      | exact fun ⟨a, b⟩ => ⟨fun q hq k => hPP _ _ _ _ _ _ _ (a q hq k), fun k => hPP _ _ _ _ _ _ _ (b k)⟩
      | exact fun ⟨a, b, c, d, e⟩ => ⟨a, b, c, d, hPP _ _ _ _ _ _ _ e⟩
      | exact fun ⟨a, b, c, d⟩ => ⟨a, b, c, hPP _ _ _ _ _ _ _ d⟩
      | exact fun ⟨a, b, c, d, e, f⟩ => ⟨a, b, c, d, e, hPP _ _ _ _ _ _ _ f⟩
      | exact hC _ _ _ _ _ _ (zback_mono hPP)
      | exact fun ⟨a, b, c⟩ => ⟨a, b, hC _ _ _ _ _ _ (zback_mono hPP) c⟩
      | exact fun ⟨a, b⟩ => ⟨a, hC _ _ _ _ _ _ (zback_mono hPP) b⟩
      | exact fun ⟨a, b, c, d⟩ => ⟨a, b, c, hC _ _ _ _ _ _ (zback_mono hPP) d⟩
      | exact fun ⟨a, b, c, d⟩ => ⟨a, b, c, hC _ _ _ _ _ _ (zbackx_mono hPP) d⟩
theorem zm_zald (nx : Nat) : zmono (zt_zald nx) := by
  intro C R P P' hC hPP ls st h n cu su ht
  revert ht
  unfold zt_zald
  first
    | exact hPP _ _ _ _ _ _ _
    | exact id
    | exact fun ⟨a, b⟩ => ⟨a, hPP _ _ _ _ _ _ _ b⟩
    | (repeat' split) <;> first
      | exact hPP _ _ _ _ _ _ _
      | exact id
      | exact fun ⟨a, b⟩ => ⟨a, hPP _ _ _ _ _ _ _ b⟩
      | exact fun ⟨a, b⟩ => ⟨fun k => hPP _ _ _ _ _ _ _ (a k), fun k => hPP _ _ _ _ _ _ _ (b k)⟩
      | exact fun ⟨a, b⟩ => ⟨fun q hq k => hPP _ _ _ _ _ _ _ (a q hq k), fun k => hPP _ _ _ _ _ _ _ (b k)⟩
      | exact fun ⟨a, b, c, d, e⟩ => ⟨a, b, c, d, hPP _ _ _ _ _ _ _ e⟩
      | exact fun ⟨a, b, c, d⟩ => ⟨a, b, c, hPP _ _ _ _ _ _ _ d⟩
      | exact fun ⟨a, b, c, d, e, f⟩ => ⟨a, b, c, d, e, hPP _ _ _ _ _ _ _ f⟩
      | exact hC _ _ _ _ _ _ (zback_mono hPP)
      | exact fun ⟨a, b, c⟩ => ⟨a, b, hC _ _ _ _ _ _ (zback_mono hPP) c⟩
      | exact fun ⟨a, b⟩ => ⟨a, hC _ _ _ _ _ _ (zback_mono hPP) b⟩
      | exact fun ⟨a, b, c, d⟩ => ⟨a, b, c, hC _ _ _ _ _ _ (zback_mono hPP) d⟩
      | exact fun ⟨a, b, c, d⟩ => ⟨a, b, c, hC _ _ _ _ _ _ (zbackx_mono hPP) d⟩
theorem zm_lald (nx : Nat) : zmono (zt_lald nx) := by
  intro C R P P' hC hPP ls st h n cu su ht
  revert ht
  unfold zt_lald
  first
    | exact hPP _ _ _ _ _ _ _
    | exact id
    | exact fun ⟨a, b⟩ => ⟨a, hPP _ _ _ _ _ _ _ b⟩
    | (repeat' split) <;> first
      | exact hPP _ _ _ _ _ _ _
      | exact id
      | exact fun ⟨a, b⟩ => ⟨a, hPP _ _ _ _ _ _ _ b⟩
      | exact fun ⟨a, b⟩ => ⟨fun k => hPP _ _ _ _ _ _ _ (a k), fun k => hPP _ _ _ _ _ _ _ (b k)⟩
      | exact fun ⟨a, b⟩ => ⟨fun q hq k => hPP _ _ _ _ _ _ _ (a q hq k), fun k => hPP _ _ _ _ _ _ _ (b k)⟩
      | exact fun ⟨a, b, c, d, e⟩ => ⟨a, b, c, d, hPP _ _ _ _ _ _ _ e⟩
      | exact fun ⟨a, b, c, d⟩ => ⟨a, b, c, hPP _ _ _ _ _ _ _ d⟩
      | exact fun ⟨a, b, c, d, e, f⟩ => ⟨a, b, c, d, e, hPP _ _ _ _ _ _ _ f⟩
      | exact hC _ _ _ _ _ _ (zback_mono hPP)
      | exact fun ⟨a, b, c⟩ => ⟨a, b, hC _ _ _ _ _ _ (zback_mono hPP) c⟩
      | exact fun ⟨a, b⟩ => ⟨a, hC _ _ _ _ _ _ (zback_mono hPP) b⟩
      | exact fun ⟨a, b, c, d⟩ => ⟨a, b, c, hC _ _ _ _ _ _ (zback_mono hPP) d⟩
      | exact fun ⟨a, b, c, d⟩ => ⟨a, b, c, hC _ _ _ _ _ _ (zbackx_mono hPP) d⟩
theorem zm_dald (nx : Nat) : zmono (zt_dald nx) := by
  intro C R P P' hC hPP ls st h n cu su ht
  revert ht
  unfold zt_dald
  first
    | exact hPP _ _ _ _ _ _ _
    | exact id
    | exact fun ⟨a, b⟩ => ⟨a, hPP _ _ _ _ _ _ _ b⟩
    | (repeat' split) <;> first
      | exact hPP _ _ _ _ _ _ _
      | exact id
      | exact fun ⟨a, b⟩ => ⟨a, hPP _ _ _ _ _ _ _ b⟩
      | exact fun ⟨a, b⟩ => ⟨fun k => hPP _ _ _ _ _ _ _ (a k), fun k => hPP _ _ _ _ _ _ _ (b k)⟩
      | exact fun ⟨a, b⟩ => ⟨fun q hq k => hPP _ _ _ _ _ _ _ (a q hq k), fun k => hPP _ _ _ _ _ _ _ (b k)⟩
      | exact fun ⟨a, b, c, d, e⟩ => ⟨a, b, c, d, hPP _ _ _ _ _ _ _ e⟩
      | exact fun ⟨a, b, c, d⟩ => ⟨a, b, c, hPP _ _ _ _ _ _ _ d⟩
      | exact fun ⟨a, b, c, d, e, f⟩ => ⟨a, b, c, d, e, hPP _ _ _ _ _ _ _ f⟩
      | exact hC _ _ _ _ _ _ (zback_mono hPP)
      | exact fun ⟨a, b, c⟩ => ⟨a, b, hC _ _ _ _ _ _ (zback_mono hPP) c⟩
      | exact fun ⟨a, b⟩ => ⟨a, hC _ _ _ _ _ _ (zback_mono hPP) b⟩
      | exact fun ⟨a, b, c, d⟩ => ⟨a, b, c, hC _ _ _ _ _ _ (zback_mono hPP) d⟩
      | exact fun ⟨a, b, c, d⟩ => ⟨a, b, c, hC _ _ _ _ _ _ (zbackx_mono hPP) d⟩
theorem zm_aald (nx : Nat) : zmono (zt_aald nx) := by
  intro C R P P' hC hPP ls st h n cu su ht
  revert ht
  unfold zt_aald
  first
    | exact hPP _ _ _ _ _ _ _
    | exact id
    | exact fun ⟨a, b⟩ => ⟨a, hPP _ _ _ _ _ _ _ b⟩
    | (repeat' split) <;> first
      | exact hPP _ _ _ _ _ _ _
      | exact id
      | exact fun ⟨a, b⟩ => ⟨a, hPP _ _ _ _ _ _ _ b⟩
      | exact fun ⟨a, b⟩ => ⟨fun k => hPP _ _ _ _ _ _ _ (a k), fun k => hPP _ _ _ _ _ _ _ (b k)⟩
      | exact fun ⟨a, b⟩ => ⟨fun q hq k => hPP _ _ _ _ _ _ _ (a q hq k), fun k => hPP _ _ _ _ _ _ _ (b k)⟩
      | exact fun ⟨a, b, c, d, e⟩ => ⟨a, b, c, d, hPP _ _ _ _ _ _ _ e⟩
      | exact fun ⟨a, b, c, d⟩ => ⟨a, b, c, hPP _ _ _ _ _ _ _ d⟩
      | exact fun ⟨a, b, c, d, e, f⟩ => ⟨a, b, c, d, e, hPP _ _ _ _ _ _ _ f⟩
      | exact hC _ _ _ _ _ _ (zback_mono hPP)
      | exact fun ⟨a, b, c⟩ => ⟨a, b, hC _ _ _ _ _ _ (zback_mono hPP) c⟩
      | exact fun ⟨a, b⟩ => ⟨a, hC _ _ _ _ _ _ (zback_mono hPP) b⟩
      | exact fun ⟨a, b, c, d⟩ => ⟨a, b, c, hC _ _ _ _ _ _ (zback_mono hPP) d⟩
      | exact fun ⟨a, b, c, d⟩ => ⟨a, b, c, hC _ _ _ _ _ _ (zbackx_mono hPP) d⟩
theorem zm_iast (nx : Nat) : zmono (zt_iast nx) := by
  intro C R P P' hC hPP ls st h n cu su ht
  revert ht
  unfold zt_iast
  first
    | exact hPP _ _ _ _ _ _ _
    | exact id
    | exact fun ⟨a, b⟩ => ⟨a, hPP _ _ _ _ _ _ _ b⟩
    | (repeat' split) <;> first
      | exact hPP _ _ _ _ _ _ _
      | exact id
      | exact fun ⟨a, b⟩ => ⟨a, hPP _ _ _ _ _ _ _ b⟩
      | exact fun ⟨a, b⟩ => ⟨fun k => hPP _ _ _ _ _ _ _ (a k), fun k => hPP _ _ _ _ _ _ _ (b k)⟩
      | exact fun ⟨a, b⟩ => ⟨fun q hq k => hPP _ _ _ _ _ _ _ (a q hq k), fun k => hPP _ _ _ _ _ _ _ (b k)⟩
      | exact fun ⟨a, b, c, d, e⟩ => ⟨a, b, c, d, hPP _ _ _ _ _ _ _ e⟩
      | exact fun ⟨a, b, c, d⟩ => ⟨a, b, c, hPP _ _ _ _ _ _ _ d⟩
      | exact fun ⟨a, b, c, d, e, f⟩ => ⟨a, b, c, d, e, hPP _ _ _ _ _ _ _ f⟩
      | exact hC _ _ _ _ _ _ (zback_mono hPP)
      | exact fun ⟨a, b, c⟩ => ⟨a, b, hC _ _ _ _ _ _ (zback_mono hPP) c⟩
      | exact fun ⟨a, b⟩ => ⟨a, hC _ _ _ _ _ _ (zback_mono hPP) b⟩
      | exact fun ⟨a, b, c, d⟩ => ⟨a, b, c, hC _ _ _ _ _ _ (zback_mono hPP) d⟩
      | exact fun ⟨a, b, c, d⟩ => ⟨a, b, c, hC _ _ _ _ _ _ (zbackx_mono hPP) d⟩
theorem zm_zast (nx : Nat) : zmono (zt_zast nx) := by
  intro C R P P' hC hPP ls st h n cu su ht
  revert ht
  unfold zt_zast
  first
    | exact hPP _ _ _ _ _ _ _
    | exact id
    | exact fun ⟨a, b⟩ => ⟨a, hPP _ _ _ _ _ _ _ b⟩
    | (repeat' split) <;> first
      | exact hPP _ _ _ _ _ _ _
      | exact id
      | exact fun ⟨a, b⟩ => ⟨a, hPP _ _ _ _ _ _ _ b⟩
      | exact fun ⟨a, b⟩ => ⟨fun k => hPP _ _ _ _ _ _ _ (a k), fun k => hPP _ _ _ _ _ _ _ (b k)⟩
      | exact fun ⟨a, b⟩ => ⟨fun q hq k => hPP _ _ _ _ _ _ _ (a q hq k), fun k => hPP _ _ _ _ _ _ _ (b k)⟩
      | exact fun ⟨a, b, c, d, e⟩ => ⟨a, b, c, d, hPP _ _ _ _ _ _ _ e⟩
      | exact fun ⟨a, b, c, d⟩ => ⟨a, b, c, hPP _ _ _ _ _ _ _ d⟩
      | exact fun ⟨a, b, c, d, e, f⟩ => ⟨a, b, c, d, e, hPP _ _ _ _ _ _ _ f⟩
      | exact hC _ _ _ _ _ _ (zback_mono hPP)
      | exact fun ⟨a, b, c⟩ => ⟨a, b, hC _ _ _ _ _ _ (zback_mono hPP) c⟩
      | exact fun ⟨a, b⟩ => ⟨a, hC _ _ _ _ _ _ (zback_mono hPP) b⟩
      | exact fun ⟨a, b, c, d⟩ => ⟨a, b, c, hC _ _ _ _ _ _ (zback_mono hPP) d⟩
      | exact fun ⟨a, b, c, d⟩ => ⟨a, b, c, hC _ _ _ _ _ _ (zbackx_mono hPP) d⟩
theorem zm_last (nx : Nat) : zmono (zt_last nx) := by
  intro C R P P' hC hPP ls st h n cu su ht
  revert ht
  unfold zt_last
  first
    | exact hPP _ _ _ _ _ _ _
    | exact id
    | exact fun ⟨a, b⟩ => ⟨a, hPP _ _ _ _ _ _ _ b⟩
    | (repeat' split) <;> first
      | exact hPP _ _ _ _ _ _ _
      | exact id
      | exact fun ⟨a, b⟩ => ⟨a, hPP _ _ _ _ _ _ _ b⟩
      | exact fun ⟨a, b⟩ => ⟨fun k => hPP _ _ _ _ _ _ _ (a k), fun k => hPP _ _ _ _ _ _ _ (b k)⟩
      | exact fun ⟨a, b⟩ => ⟨fun q hq k => hPP _ _ _ _ _ _ _ (a q hq k), fun k => hPP _ _ _ _ _ _ _ (b k)⟩
      | exact fun ⟨a, b, c, d, e⟩ => ⟨a, b, c, d, hPP _ _ _ _ _ _ _ e⟩
      | exact fun ⟨a, b, c, d⟩ => ⟨a, b, c, hPP _ _ _ _ _ _ _ d⟩
      | exact fun ⟨a, b, c, d, e, f⟩ => ⟨a, b, c, d, e, hPP _ _ _ _ _ _ _ f⟩
      | exact hC _ _ _ _ _ _ (zback_mono hPP)
      | exact fun ⟨a, b, c⟩ => ⟨a, b, hC _ _ _ _ _ _ (zback_mono hPP) c⟩
      | exact fun ⟨a, b⟩ => ⟨a, hC _ _ _ _ _ _ (zback_mono hPP) b⟩
      | exact fun ⟨a, b, c, d⟩ => ⟨a, b, c, hC _ _ _ _ _ _ (zback_mono hPP) d⟩
      | exact fun ⟨a, b, c, d⟩ => ⟨a, b, c, hC _ _ _ _ _ _ (zbackx_mono hPP) d⟩
theorem zm_dast (nx : Nat) : zmono (zt_dast nx) := by
  intro C R P P' hC hPP ls st h n cu su ht
  revert ht
  unfold zt_dast
  first
    | exact hPP _ _ _ _ _ _ _
    | exact id
    | exact fun ⟨a, b⟩ => ⟨a, hPP _ _ _ _ _ _ _ b⟩
    | (repeat' split) <;> first
      | exact hPP _ _ _ _ _ _ _
      | exact id
      | exact fun ⟨a, b⟩ => ⟨a, hPP _ _ _ _ _ _ _ b⟩
      | exact fun ⟨a, b⟩ => ⟨fun k => hPP _ _ _ _ _ _ _ (a k), fun k => hPP _ _ _ _ _ _ _ (b k)⟩
      | exact fun ⟨a, b⟩ => ⟨fun q hq k => hPP _ _ _ _ _ _ _ (a q hq k), fun k => hPP _ _ _ _ _ _ _ (b k)⟩
      | exact fun ⟨a, b, c, d, e⟩ => ⟨a, b, c, d, hPP _ _ _ _ _ _ _ e⟩
      | exact fun ⟨a, b, c, d⟩ => ⟨a, b, c, hPP _ _ _ _ _ _ _ d⟩
      | exact fun ⟨a, b, c, d, e, f⟩ => ⟨a, b, c, d, e, hPP _ _ _ _ _ _ _ f⟩
      | exact hC _ _ _ _ _ _ (zback_mono hPP)
      | exact fun ⟨a, b, c⟩ => ⟨a, b, hC _ _ _ _ _ _ (zback_mono hPP) c⟩
      | exact fun ⟨a, b⟩ => ⟨a, hC _ _ _ _ _ _ (zback_mono hPP) b⟩
      | exact fun ⟨a, b, c, d⟩ => ⟨a, b, c, hC _ _ _ _ _ _ (zback_mono hPP) d⟩
      | exact fun ⟨a, b, c, d⟩ => ⟨a, b, c, hC _ _ _ _ _ _ (zbackx_mono hPP) d⟩
theorem zm_aast (ci nx : Nat) : zmono (zt_aast ci nx) := by
  intro C R P P' hC hPP ls st h n cu su ht
  revert ht
  unfold zt_aast
  first
    | exact hPP _ _ _ _ _ _ _
    | exact id
    | exact fun ⟨a, b⟩ => ⟨a, hPP _ _ _ _ _ _ _ b⟩
    | (repeat' split) <;> first
      | exact hPP _ _ _ _ _ _ _
      | exact id
      | exact fun ⟨a, b⟩ => ⟨a, hPP _ _ _ _ _ _ _ b⟩
      | exact fun ⟨a, b⟩ => ⟨fun k => hPP _ _ _ _ _ _ _ (a k), fun k => hPP _ _ _ _ _ _ _ (b k)⟩
      | exact fun ⟨a, b⟩ => ⟨fun q hq k => hPP _ _ _ _ _ _ _ (a q hq k), fun k => hPP _ _ _ _ _ _ _ (b k)⟩
      | exact fun ⟨a, b, c, d, e⟩ => ⟨a, b, c, d, hPP _ _ _ _ _ _ _ e⟩
      | exact fun ⟨a, b, c, d⟩ => ⟨a, b, c, hPP _ _ _ _ _ _ _ d⟩
      | exact fun ⟨a, b, c, d, e, f⟩ => ⟨a, b, c, d, e, hPP _ _ _ _ _ _ _ f⟩
      | exact hC _ _ _ _ _ _ (zback_mono hPP)
      | exact fun ⟨a, b, c⟩ => ⟨a, b, hC _ _ _ _ _ _ (zback_mono hPP) c⟩
      | exact fun ⟨a, b⟩ => ⟨a, hC _ _ _ _ _ _ (zback_mono hPP) b⟩
      | exact fun ⟨a, b, c, d⟩ => ⟨a, b, c, hC _ _ _ _ _ _ (zback_mono hPP) d⟩
      | exact fun ⟨a, b, c, d⟩ => ⟨a, b, c, hC _ _ _ _ _ _ (zbackx_mono hPP) d⟩
theorem zm_alen (nx : Nat) : zmono (zt_alen nx) := by
  intro C R P P' hC hPP ls st h n cu su ht
  revert ht
  unfold zt_alen
  first
    | exact hPP _ _ _ _ _ _ _
    | exact id
    | exact fun ⟨a, b⟩ => ⟨a, hPP _ _ _ _ _ _ _ b⟩
    | (repeat' split) <;> first
      | exact hPP _ _ _ _ _ _ _
      | exact id
      | exact fun ⟨a, b⟩ => ⟨a, hPP _ _ _ _ _ _ _ b⟩
      | exact fun ⟨a, b⟩ => ⟨fun k => hPP _ _ _ _ _ _ _ (a k), fun k => hPP _ _ _ _ _ _ _ (b k)⟩
      | exact fun ⟨a, b⟩ => ⟨fun q hq k => hPP _ _ _ _ _ _ _ (a q hq k), fun k => hPP _ _ _ _ _ _ _ (b k)⟩
      | exact fun ⟨a, b, c, d, e⟩ => ⟨a, b, c, d, hPP _ _ _ _ _ _ _ e⟩
      | exact fun ⟨a, b, c, d⟩ => ⟨a, b, c, hPP _ _ _ _ _ _ _ d⟩
      | exact fun ⟨a, b, c, d, e, f⟩ => ⟨a, b, c, d, e, hPP _ _ _ _ _ _ _ f⟩
      | exact hC _ _ _ _ _ _ (zback_mono hPP)
      | exact fun ⟨a, b, c⟩ => ⟨a, b, hC _ _ _ _ _ _ (zback_mono hPP) c⟩
      | exact fun ⟨a, b⟩ => ⟨a, hC _ _ _ _ _ _ (zback_mono hPP) b⟩
      | exact fun ⟨a, b, c, d⟩ => ⟨a, b, c, hC _ _ _ _ _ _ (zback_mono hPP) d⟩
      | exact fun ⟨a, b, c, d⟩ => ⟨a, b, c, hC _ _ _ _ _ _ (zbackx_mono hPP) d⟩
theorem zm_newi (lim : Nat × Nat) (nx : Nat) : zmono (zt_newi lim nx) := by
  intro C R P P' hC hPP ls st h n cu su ht
  revert ht
  unfold zt_newi
  first
    | exact hPP _ _ _ _ _ _ _
    | exact id
    | exact fun ⟨a, b⟩ => ⟨a, hPP _ _ _ _ _ _ _ b⟩
    | (repeat' split) <;> first
      | exact hPP _ _ _ _ _ _ _
      | exact id
      | exact fun ⟨a, b⟩ => ⟨a, hPP _ _ _ _ _ _ _ b⟩
      | exact fun ⟨a, b⟩ => ⟨fun k => hPP _ _ _ _ _ _ _ (a k), fun k => hPP _ _ _ _ _ _ _ (b k)⟩
      | exact fun ⟨a, b⟩ => ⟨fun q hq k => hPP _ _ _ _ _ _ _ (a q hq k), fun k => hPP _ _ _ _ _ _ _ (b k)⟩
      | exact fun ⟨a, b, c, d, e⟩ => ⟨a, b, c, d, hPP _ _ _ _ _ _ _ e⟩
      | exact fun ⟨a, b, c, d⟩ => ⟨a, b, c, hPP _ _ _ _ _ _ _ d⟩
      | exact fun ⟨a, b, c, d, e, f⟩ => ⟨a, b, c, d, e, hPP _ _ _ _ _ _ _ f⟩
      | exact hC _ _ _ _ _ _ (zback_mono hPP)
      | exact fun ⟨a, b, c⟩ => ⟨a, b, hC _ _ _ _ _ _ (zback_mono hPP) c⟩
      | exact fun ⟨a, b⟩ => ⟨a, hC _ _ _ _ _ _ (zback_mono hPP) b⟩
      | exact fun ⟨a, b, c, d⟩ => ⟨a, b, c, hC _ _ _ _ _ _ (zback_mono hPP) d⟩
      | exact fun ⟨a, b, c, d⟩ => ⟨a, b, c, hC _ _ _ _ _ _ (zbackx_mono hPP) d⟩
theorem zm_newz (lim : Nat × Nat) (nx : Nat) : zmono (zt_newz lim nx) := by
  intro C R P P' hC hPP ls st h n cu su ht
  revert ht
  unfold zt_newz
  first
    | exact hPP _ _ _ _ _ _ _
    | exact id
    | exact fun ⟨a, b⟩ => ⟨a, hPP _ _ _ _ _ _ _ b⟩
    | (repeat' split) <;> first
      | exact hPP _ _ _ _ _ _ _
      | exact id
      | exact fun ⟨a, b⟩ => ⟨a, hPP _ _ _ _ _ _ _ b⟩
      | exact fun ⟨a, b⟩ => ⟨fun k => hPP _ _ _ _ _ _ _ (a k), fun k => hPP _ _ _ _ _ _ _ (b k)⟩
      | exact fun ⟨a, b⟩ => ⟨fun q hq k => hPP _ _ _ _ _ _ _ (a q hq k), fun k => hPP _ _ _ _ _ _ _ (b k)⟩
      | exact fun ⟨a, b, c, d, e⟩ => ⟨a, b, c, d, hPP _ _ _ _ _ _ _ e⟩
      | exact fun ⟨a, b, c, d⟩ => ⟨a, b, c, hPP _ _ _ _ _ _ _ d⟩
      | exact fun ⟨a, b, c, d, e, f⟩ => ⟨a, b, c, d, e, hPP _ _ _ _ _ _ _ f⟩
      | exact hC _ _ _ _ _ _ (zback_mono hPP)
      | exact fun ⟨a, b, c⟩ => ⟨a, b, hC _ _ _ _ _ _ (zback_mono hPP) c⟩
      | exact fun ⟨a, b⟩ => ⟨a, hC _ _ _ _ _ _ (zback_mono hPP) b⟩
      | exact fun ⟨a, b, c, d⟩ => ⟨a, b, c, hC _ _ _ _ _ _ (zback_mono hPP) d⟩
      | exact fun ⟨a, b, c, d⟩ => ⟨a, b, c, hC _ _ _ _ _ _ (zbackx_mono hPP) d⟩
theorem zm_newl (lim : Nat × Nat) (nx : Nat) : zmono (zt_newl lim nx) := by
  intro C R P P' hC hPP ls st h n cu su ht
  revert ht
  unfold zt_newl
  first
    | exact hPP _ _ _ _ _ _ _
    | exact id
    | exact fun ⟨a, b⟩ => ⟨a, hPP _ _ _ _ _ _ _ b⟩
    | (repeat' split) <;> first
      | exact hPP _ _ _ _ _ _ _
      | exact id
      | exact fun ⟨a, b⟩ => ⟨a, hPP _ _ _ _ _ _ _ b⟩
      | exact fun ⟨a, b⟩ => ⟨fun k => hPP _ _ _ _ _ _ _ (a k), fun k => hPP _ _ _ _ _ _ _ (b k)⟩
      | exact fun ⟨a, b⟩ => ⟨fun q hq k => hPP _ _ _ _ _ _ _ (a q hq k), fun k => hPP _ _ _ _ _ _ _ (b k)⟩
      | exact fun ⟨a, b, c, d, e⟩ => ⟨a, b, c, d, hPP _ _ _ _ _ _ _ e⟩
      | exact fun ⟨a, b, c, d⟩ => ⟨a, b, c, hPP _ _ _ _ _ _ _ d⟩
      | exact fun ⟨a, b, c, d, e, f⟩ => ⟨a, b, c, d, e, hPP _ _ _ _ _ _ _ f⟩
      | exact hC _ _ _ _ _ _ (zback_mono hPP)
      | exact fun ⟨a, b, c⟩ => ⟨a, b, hC _ _ _ _ _ _ (zback_mono hPP) c⟩
      | exact fun ⟨a, b⟩ => ⟨a, hC _ _ _ _ _ _ (zback_mono hPP) b⟩
      | exact fun ⟨a, b, c, d⟩ => ⟨a, b, c, hC _ _ _ _ _ _ (zback_mono hPP) d⟩
      | exact fun ⟨a, b, c, d⟩ => ⟨a, b, c, hC _ _ _ _ _ _ (zbackx_mono hPP) d⟩
theorem zm_newd (lim : Nat × Nat) (nx : Nat) : zmono (zt_newd lim nx) := by
  intro C R P P' hC hPP ls st h n cu su ht
  revert ht
  unfold zt_newd
  first
    | exact hPP _ _ _ _ _ _ _
    | exact id
    | exact fun ⟨a, b⟩ => ⟨a, hPP _ _ _ _ _ _ _ b⟩
    | (repeat' split) <;> first
      | exact hPP _ _ _ _ _ _ _
      | exact id
      | exact fun ⟨a, b⟩ => ⟨a, hPP _ _ _ _ _ _ _ b⟩
      | exact fun ⟨a, b⟩ => ⟨fun k => hPP _ _ _ _ _ _ _ (a k), fun k => hPP _ _ _ _ _ _ _ (b k)⟩
      | exact fun ⟨a, b⟩ => ⟨fun q hq k => hPP _ _ _ _ _ _ _ (a q hq k), fun k => hPP _ _ _ _ _ _ _ (b k)⟩
      | exact fun ⟨a, b, c, d, e⟩ => ⟨a, b, c, d, hPP _ _ _ _ _ _ _ e⟩
      | exact fun ⟨a, b, c, d⟩ => ⟨a, b, c, hPP _ _ _ _ _ _ _ d⟩
      | exact fun ⟨a, b, c, d, e, f⟩ => ⟨a, b, c, d, e, hPP _ _ _ _ _ _ _ f⟩
      | exact hC _ _ _ _ _ _ (zback_mono hPP)
      | exact fun ⟨a, b, c⟩ => ⟨a, b, hC _ _ _ _ _ _ (zback_mono hPP) c⟩
      | exact fun ⟨a, b⟩ => ⟨a, hC _ _ _ _ _ _ (zback_mono hPP) b⟩
      | exact fun ⟨a, b, c, d⟩ => ⟨a, b, c, hC _ _ _ _ _ _ (zback_mono hPP) d⟩
      | exact fun ⟨a, b, c, d⟩ => ⟨a, b, c, hC _ _ _ _ _ _ (zbackx_mono hPP) d⟩
theorem zm_newa (lim : Nat × Nat) (nx : Nat) : zmono (zt_newa lim nx) := by
  intro C R P P' hC hPP ls st h n cu su ht
  revert ht
  unfold zt_newa
  first
    | exact hPP _ _ _ _ _ _ _
    | exact id
    | exact fun ⟨a, b⟩ => ⟨a, hPP _ _ _ _ _ _ _ b⟩
    | (repeat' split) <;> first
      | exact hPP _ _ _ _ _ _ _
      | exact id
      | exact fun ⟨a, b⟩ => ⟨a, hPP _ _ _ _ _ _ _ b⟩
      | exact fun ⟨a, b⟩ => ⟨fun k => hPP _ _ _ _ _ _ _ (a k), fun k => hPP _ _ _ _ _ _ _ (b k)⟩
      | exact fun ⟨a, b⟩ => ⟨fun q hq k => hPP _ _ _ _ _ _ _ (a q hq k), fun k => hPP _ _ _ _ _ _ _ (b k)⟩
      | exact fun ⟨a, b, c, d, e⟩ => ⟨a, b, c, d, hPP _ _ _ _ _ _ _ e⟩
      | exact fun ⟨a, b, c, d⟩ => ⟨a, b, c, hPP _ _ _ _ _ _ _ d⟩
      | exact fun ⟨a, b, c, d, e, f⟩ => ⟨a, b, c, d, e, hPP _ _ _ _ _ _ _ f⟩
      | exact hC _ _ _ _ _ _ (zback_mono hPP)
      | exact fun ⟨a, b, c⟩ => ⟨a, b, hC _ _ _ _ _ _ (zback_mono hPP) c⟩
      | exact fun ⟨a, b⟩ => ⟨a, hC _ _ _ _ _ _ (zback_mono hPP) b⟩
      | exact fun ⟨a, b, c, d⟩ => ⟨a, b, c, hC _ _ _ _ _ _ (zback_mono hPP) d⟩
      | exact fun ⟨a, b, c, d⟩ => ⟨a, b, c, hC _ _ _ _ _ _ (zbackx_mono hPP) d⟩
theorem zm_new (ci : Nat) (fs : List Value) (lim : Nat × Nat) (nx : Nat) : zmono (zt_new ci fs lim nx) := by
  intro C R P P' hC hPP ls st h n cu su ht
  revert ht
  unfold zt_new
  first
    | exact hPP _ _ _ _ _ _ _
    | exact id
    | exact fun ⟨a, b⟩ => ⟨a, hPP _ _ _ _ _ _ _ b⟩
    | (repeat' split) <;> first
      | exact hPP _ _ _ _ _ _ _
      | exact id
      | exact fun ⟨a, b⟩ => ⟨a, hPP _ _ _ _ _ _ _ b⟩
      | exact fun ⟨a, b⟩ => ⟨fun k => hPP _ _ _ _ _ _ _ (a k), fun k => hPP _ _ _ _ _ _ _ (b k)⟩
      | exact fun ⟨a, b⟩ => ⟨fun q hq k => hPP _ _ _ _ _ _ _ (a q hq k), fun k => hPP _ _ _ _ _ _ _ (b k)⟩
      | exact fun ⟨a, b, c, d, e⟩ => ⟨a, b, c, d, hPP _ _ _ _ _ _ _ e⟩
      | exact fun ⟨a, b, c, d⟩ => ⟨a, b, c, hPP _ _ _ _ _ _ _ d⟩
      | exact fun ⟨a, b, c, d, e, f⟩ => ⟨a, b, c, d, e, hPP _ _ _ _ _ _ _ f⟩
      | exact hC _ _ _ _ _ _ (zback_mono hPP)
      | exact fun ⟨a, b, c⟩ => ⟨a, b, hC _ _ _ _ _ _ (zback_mono hPP) c⟩
      | exact fun ⟨a, b⟩ => ⟨a, hC _ _ _ _ _ _ (zback_mono hPP) b⟩
      | exact fun ⟨a, b, c, d⟩ => ⟨a, b, c, hC _ _ _ _ _ _ (zback_mono hPP) d⟩
      | exact fun ⟨a, b, c, d⟩ => ⟨a, b, c, hC _ _ _ _ _ _ (zbackx_mono hPP) d⟩
theorem zm_objinit (nx : Nat) : zmono (zt_objinit nx) := by
  intro C R P P' hC hPP ls st h n cu su ht
  revert ht
  unfold zt_objinit
  first
    | exact hPP _ _ _ _ _ _ _
    | exact id
    | exact fun ⟨a, b⟩ => ⟨a, hPP _ _ _ _ _ _ _ b⟩
    | (repeat' split) <;> first
      | exact hPP _ _ _ _ _ _ _
      | exact id
      | exact fun ⟨a, b⟩ => ⟨a, hPP _ _ _ _ _ _ _ b⟩
      | exact fun ⟨a, b⟩ => ⟨fun k => hPP _ _ _ _ _ _ _ (a k), fun k => hPP _ _ _ _ _ _ _ (b k)⟩
      | exact fun ⟨a, b⟩ => ⟨fun q hq k => hPP _ _ _ _ _ _ _ (a q hq k), fun k => hPP _ _ _ _ _ _ _ (b k)⟩
      | exact fun ⟨a, b, c, d, e⟩ => ⟨a, b, c, d, hPP _ _ _ _ _ _ _ e⟩
      | exact fun ⟨a, b, c, d⟩ => ⟨a, b, c, hPP _ _ _ _ _ _ _ d⟩
      | exact fun ⟨a, b, c, d, e, f⟩ => ⟨a, b, c, d, e, hPP _ _ _ _ _ _ _ f⟩
      | exact hC _ _ _ _ _ _ (zback_mono hPP)
      | exact fun ⟨a, b, c⟩ => ⟨a, b, hC _ _ _ _ _ _ (zback_mono hPP) c⟩
      | exact fun ⟨a, b⟩ => ⟨a, hC _ _ _ _ _ _ (zback_mono hPP) b⟩
      | exact fun ⟨a, b, c, d⟩ => ⟨a, b, c, hC _ _ _ _ _ _ (zback_mono hPP) d⟩
      | exact fun ⟨a, b, c, d⟩ => ⟨a, b, c, hC _ _ _ _ _ _ (zbackx_mono hPP) d⟩
theorem zm_call (y k nx : Nat) : zmono (zt_call y k nx) := by
  intro C R P P' hC hPP ls st h n cu su ht
  revert ht
  unfold zt_call
  first
    | exact hPP _ _ _ _ _ _ _
    | exact id
    | exact fun ⟨a, b⟩ => ⟨a, hPP _ _ _ _ _ _ _ b⟩
    | (repeat' split) <;> first
      | exact hPP _ _ _ _ _ _ _
      | exact id
      | exact fun ⟨a, b⟩ => ⟨a, hPP _ _ _ _ _ _ _ b⟩
      | exact fun ⟨a, b⟩ => ⟨fun k => hPP _ _ _ _ _ _ _ (a k), fun k => hPP _ _ _ _ _ _ _ (b k)⟩
      | exact fun ⟨a, b⟩ => ⟨fun q hq k => hPP _ _ _ _ _ _ _ (a q hq k), fun k => hPP _ _ _ _ _ _ _ (b k)⟩
      | exact fun ⟨a, b, c, d, e⟩ => ⟨a, b, c, d, hPP _ _ _ _ _ _ _ e⟩
      | exact fun ⟨a, b, c, d⟩ => ⟨a, b, c, hPP _ _ _ _ _ _ _ d⟩
      | exact fun ⟨a, b, c, d, e, f⟩ => ⟨a, b, c, d, e, hPP _ _ _ _ _ _ _ f⟩
      | exact hC _ _ _ _ _ _ (zback_mono hPP)
      | exact fun ⟨a, b, c⟩ => ⟨a, b, hC _ _ _ _ _ _ (zback_mono hPP) c⟩
      | exact fun ⟨a, b⟩ => ⟨a, hC _ _ _ _ _ _ (zback_mono hPP) b⟩
      | exact fun ⟨a, b, c, d⟩ => ⟨a, b, c, hC _ _ _ _ _ _ (zback_mono hPP) d⟩
      | exact fun ⟨a, b, c, d⟩ => ⟨a, b, c, hC _ _ _ _ _ _ (zbackx_mono hPP) d⟩
theorem zm_callv (ci y k nx : Nat) : zmono (zt_callv ci y k nx) := by
  intro C R P P' hC hPP ls st h n cu su ht
  revert ht
  unfold zt_callv
  first
    | exact hPP _ _ _ _ _ _ _
    | exact id
    | exact fun ⟨a, b⟩ => ⟨a, hPP _ _ _ _ _ _ _ b⟩
    | (repeat' split) <;> first
      | exact hPP _ _ _ _ _ _ _
      | exact id
      | exact fun ⟨a, b⟩ => ⟨a, hPP _ _ _ _ _ _ _ b⟩
      | exact fun ⟨a, b⟩ => ⟨fun k => hPP _ _ _ _ _ _ _ (a k), fun k => hPP _ _ _ _ _ _ _ (b k)⟩
      | exact fun ⟨a, b⟩ => ⟨fun q hq k => hPP _ _ _ _ _ _ _ (a q hq k), fun k => hPP _ _ _ _ _ _ _ (b k)⟩
      | exact fun ⟨a, b, c, d, e⟩ => ⟨a, b, c, d, hPP _ _ _ _ _ _ _ e⟩
      | exact fun ⟨a, b, c, d⟩ => ⟨a, b, c, hPP _ _ _ _ _ _ _ d⟩
      | exact fun ⟨a, b, c, d, e, f⟩ => ⟨a, b, c, d, e, hPP _ _ _ _ _ _ _ f⟩
      | exact hC _ _ _ _ _ _ (zback_mono hPP)
      | exact fun ⟨a, b, c⟩ => ⟨a, b, hC _ _ _ _ _ _ (zback_mono hPP) c⟩
      | exact fun ⟨a, b⟩ => ⟨a, hC _ _ _ _ _ _ (zback_mono hPP) b⟩
      | exact fun ⟨a, b, c, d⟩ => ⟨a, b, c, hC _ _ _ _ _ _ (zback_mono hPP) d⟩
      | exact fun ⟨a, b, c, d⟩ => ⟨a, b, c, hC _ _ _ _ _ _ (zbackx_mono hPP) d⟩
theorem zm_callm (y k mk sk : Nat) (lim : Nat × Nat) (nx : Nat) : zmono (zt_callm y k mk sk lim nx) := by
  intro C R P P' hC hPP ls st h n cu su ht
  revert ht
  unfold zt_callm
  first
    | exact hPP _ _ _ _ _ _ _
    | exact id
    | exact fun ⟨a, b⟩ => ⟨a, hPP _ _ _ _ _ _ _ b⟩
    | (repeat' split) <;> first
      | exact hPP _ _ _ _ _ _ _
      | exact id
      | exact fun ⟨a, b⟩ => ⟨a, hPP _ _ _ _ _ _ _ b⟩
      | exact fun ⟨a, b⟩ => ⟨fun k => hPP _ _ _ _ _ _ _ (a k), fun k => hPP _ _ _ _ _ _ _ (b k)⟩
      | exact fun ⟨a, b⟩ => ⟨fun q hq k => hPP _ _ _ _ _ _ _ (a q hq k), fun k => hPP _ _ _ _ _ _ _ (b k)⟩
      | exact fun ⟨a, b, c, d, e⟩ => ⟨a, b, c, d, hPP _ _ _ _ _ _ _ e⟩
      | exact fun ⟨a, b, c, d⟩ => ⟨a, b, c, hPP _ _ _ _ _ _ _ d⟩
      | exact fun ⟨a, b, c, d, e, f⟩ => ⟨a, b, c, d, e, hPP _ _ _ _ _ _ _ f⟩
      | exact hC _ _ _ _ _ _ (zback_mono hPP)
      | exact fun ⟨a, b, c⟩ => ⟨a, b, hC _ _ _ _ _ _ (zback_mono hPP) c⟩
      | exact fun ⟨a, b⟩ => ⟨a, hC _ _ _ _ _ _ (zback_mono hPP) b⟩
      | exact fun ⟨a, b, c, d⟩ => ⟨a, b, c, hC _ _ _ _ _ _ (zback_mono hPP) d⟩
      | exact fun ⟨a, b, c, d⟩ => ⟨a, b, c, hC _ _ _ _ _ _ (zbackx_mono hPP) d⟩
theorem zm_callx (ci y k mk sk : Nat) (lim : Nat × Nat) (hs : List (Nat × Nat × Nat)) (nx : Nat) : zmono (zt_callx ci y k mk sk lim hs nx) := by
  intro C R P P' hC hPP ls st h n cu su ht
  revert ht
  unfold zt_callx
  first
    | exact hPP _ _ _ _ _ _ _
    | exact id
    | exact fun ⟨a, b⟩ => ⟨a, hPP _ _ _ _ _ _ _ b⟩
    | (repeat' split) <;> first
      | exact hPP _ _ _ _ _ _ _
      | exact id
      | exact fun ⟨a, b⟩ => ⟨a, hPP _ _ _ _ _ _ _ b⟩
      | exact fun ⟨a, b⟩ => ⟨fun k => hPP _ _ _ _ _ _ _ (a k), fun k => hPP _ _ _ _ _ _ _ (b k)⟩
      | exact fun ⟨a, b⟩ => ⟨fun q hq k => hPP _ _ _ _ _ _ _ (a q hq k), fun k => hPP _ _ _ _ _ _ _ (b k)⟩
      | exact fun ⟨a, b, c, d, e⟩ => ⟨a, b, c, d, hPP _ _ _ _ _ _ _ e⟩
      | exact fun ⟨a, b, c, d⟩ => ⟨a, b, c, hPP _ _ _ _ _ _ _ d⟩
      | exact fun ⟨a, b, c, d, e, f⟩ => ⟨a, b, c, d, e, hPP _ _ _ _ _ _ _ f⟩
      | exact hC _ _ _ _ _ _ (zback_mono hPP)
      | exact fun ⟨a, b, c⟩ => ⟨a, b, hC _ _ _ _ _ _ (zback_mono hPP) c⟩
      | exact fun ⟨a, b⟩ => ⟨a, hC _ _ _ _ _ _ (zback_mono hPP) b⟩
      | exact fun ⟨a, b, c, d⟩ => ⟨a, b, c, hC _ _ _ _ _ _ (zback_mono hPP) d⟩
      | exact fun ⟨a, b, c, d⟩ => ⟨a, b, c, hC _ _ _ _ _ _ (zbackx_mono hPP) d⟩
theorem zm_callvm (ci y k mk sk : Nat) (lim : Nat × Nat) (nx : Nat) : zmono (zt_callvm ci y k mk sk lim nx) := by
  intro C R P P' hC hPP ls st h n cu su ht
  revert ht
  unfold zt_callvm
  first
    | exact hPP _ _ _ _ _ _ _
    | exact id
    | exact fun ⟨a, b⟩ => ⟨a, hPP _ _ _ _ _ _ _ b⟩
    | (repeat' split) <;> first
      | exact hPP _ _ _ _ _ _ _
      | exact id
      | exact fun ⟨a, b⟩ => ⟨a, hPP _ _ _ _ _ _ _ b⟩
      | exact fun ⟨a, b⟩ => ⟨fun k => hPP _ _ _ _ _ _ _ (a k), fun k => hPP _ _ _ _ _ _ _ (b k)⟩
      | exact fun ⟨a, b⟩ => ⟨fun q hq k => hPP _ _ _ _ _ _ _ (a q hq k), fun k => hPP _ _ _ _ _ _ _ (b k)⟩
      | exact fun ⟨a, b, c, d, e⟩ => ⟨a, b, c, d, hPP _ _ _ _ _ _ _ e⟩
      | exact fun ⟨a, b, c, d⟩ => ⟨a, b, c, hPP _ _ _ _ _ _ _ d⟩
      | exact fun ⟨a, b, c, d, e, f⟩ => ⟨a, b, c, d, e, hPP _ _ _ _ _ _ _ f⟩
      | exact hC _ _ _ _ _ _ (zback_mono hPP)
      | exact fun ⟨a, b, c⟩ => ⟨a, b, hC _ _ _ _ _ _ (zback_mono hPP) c⟩
      | exact fun ⟨a, b⟩ => ⟨a, hC _ _ _ _ _ _ (zback_mono hPP) b⟩
      | exact fun ⟨a, b, c, d⟩ => ⟨a, b, c, hC _ _ _ _ _ _ (zback_mono hPP) d⟩
      | exact fun ⟨a, b, c, d⟩ => ⟨a, b, c, hC _ _ _ _ _ _ (zbackx_mono hPP) d⟩
theorem zm_imax (nx : Nat) : zmono (zt_imax nx) := by
  intro C R P P' hC hPP ls st h n cu su ht
  revert ht
  unfold zt_imax
  first
    | exact hPP _ _ _ _ _ _ _
    | exact id
    | exact fun ⟨a, b⟩ => ⟨a, hPP _ _ _ _ _ _ _ b⟩
    | (repeat' split) <;> first
      | exact hPP _ _ _ _ _ _ _
      | exact id
      | exact fun ⟨a, b⟩ => ⟨a, hPP _ _ _ _ _ _ _ b⟩
      | exact fun ⟨a, b⟩ => ⟨fun k => hPP _ _ _ _ _ _ _ (a k), fun k => hPP _ _ _ _ _ _ _ (b k)⟩
      | exact fun ⟨a, b⟩ => ⟨fun q hq k => hPP _ _ _ _ _ _ _ (a q hq k), fun k => hPP _ _ _ _ _ _ _ (b k)⟩
      | exact fun ⟨a, b, c, d, e⟩ => ⟨a, b, c, d, hPP _ _ _ _ _ _ _ e⟩
      | exact fun ⟨a, b, c, d⟩ => ⟨a, b, c, hPP _ _ _ _ _ _ _ d⟩
      | exact fun ⟨a, b, c, d, e, f⟩ => ⟨a, b, c, d, e, hPP _ _ _ _ _ _ _ f⟩
      | exact hC _ _ _ _ _ _ (zback_mono hPP)
      | exact fun ⟨a, b, c⟩ => ⟨a, b, hC _ _ _ _ _ _ (zback_mono hPP) c⟩
      | exact fun ⟨a, b⟩ => ⟨a, hC _ _ _ _ _ _ (zback_mono hPP) b⟩
      | exact fun ⟨a, b, c, d⟩ => ⟨a, b, c, hC _ _ _ _ _ _ (zback_mono hPP) d⟩
      | exact fun ⟨a, b, c, d⟩ => ⟨a, b, c, hC _ _ _ _ _ _ (zbackx_mono hPP) d⟩
theorem zm_imin (nx : Nat) : zmono (zt_imin nx) := by
  intro C R P P' hC hPP ls st h n cu su ht
  revert ht
  unfold zt_imin
  first
    | exact hPP _ _ _ _ _ _ _
    | exact id
    | exact fun ⟨a, b⟩ => ⟨a, hPP _ _ _ _ _ _ _ b⟩
    | (repeat' split) <;> first
      | exact hPP _ _ _ _ _ _ _
      | exact id
      | exact fun ⟨a, b⟩ => ⟨a, hPP _ _ _ _ _ _ _ b⟩
      | exact fun ⟨a, b⟩ => ⟨fun k => hPP _ _ _ _ _ _ _ (a k), fun k => hPP _ _ _ _ _ _ _ (b k)⟩
      | exact fun ⟨a, b⟩ => ⟨fun q hq k => hPP _ _ _ _ _ _ _ (a q hq k), fun k => hPP _ _ _ _ _ _ _ (b k)⟩
      | exact fun ⟨a, b, c, d, e⟩ => ⟨a, b, c, d, hPP _ _ _ _ _ _ _ e⟩
      | exact fun ⟨a, b, c, d⟩ => ⟨a, b, c, hPP _ _ _ _ _ _ _ d⟩
      | exact fun ⟨a, b, c, d, e, f⟩ => ⟨a, b, c, d, e, hPP _ _ _ _ _ _ _ f⟩
      | exact hC _ _ _ _ _ _ (zback_mono hPP)
      | exact fun ⟨a, b, c⟩ => ⟨a, b, hC _ _ _ _ _ _ (zback_mono hPP) c⟩
      | exact fun ⟨a, b⟩ => ⟨a, hC _ _ _ _ _ _ (zback_mono hPP) b⟩
      | exact fun ⟨a, b, c, d⟩ => ⟨a, b, c, hC _ _ _ _ _ _ (zback_mono hPP) d⟩
      | exact fun ⟨a, b, c, d⟩ => ⟨a, b, c, hC _ _ _ _ _ _ (zbackx_mono hPP) d⟩
theorem zm_throw (x : Nat) (lim : Nat × Nat) : zmono (zt_throw x lim) := by
  intro C R P P' hC hPP ls st h n cu su ht
  revert ht
  unfold zt_throw
  first
    | exact hPP _ _ _ _ _ _ _
    | exact id
    | exact fun ⟨a, b⟩ => ⟨a, hPP _ _ _ _ _ _ _ b⟩
    | (repeat' split) <;> first
      | exact hPP _ _ _ _ _ _ _
      | exact id
      | exact fun ⟨a, b⟩ => ⟨a, hPP _ _ _ _ _ _ _ b⟩
      | exact fun ⟨a, b⟩ => ⟨fun k => hPP _ _ _ _ _ _ _ (a k), fun k => hPP _ _ _ _ _ _ _ (b k)⟩
      | exact fun ⟨a, b⟩ => ⟨fun q hq k => hPP _ _ _ _ _ _ _ (a q hq k), fun k => hPP _ _ _ _ _ _ _ (b k)⟩
      | exact fun ⟨a, b, c, d, e⟩ => ⟨a, b, c, d, hPP _ _ _ _ _ _ _ e⟩
      | exact fun ⟨a, b, c, d⟩ => ⟨a, b, c, hPP _ _ _ _ _ _ _ d⟩
      | exact fun ⟨a, b, c, d, e, f⟩ => ⟨a, b, c, d, e, hPP _ _ _ _ _ _ _ f⟩
      | exact hC _ _ _ _ _ _ (zback_mono hPP)
      | exact fun ⟨a, b, c⟩ => ⟨a, b, hC _ _ _ _ _ _ (zback_mono hPP) c⟩
      | exact fun ⟨a, b⟩ => ⟨a, hC _ _ _ _ _ _ (zback_mono hPP) b⟩
      | exact fun ⟨a, b, c, d⟩ => ⟨a, b, c, hC _ _ _ _ _ _ (zback_mono hPP) d⟩
      | exact fun ⟨a, b, c, d⟩ => ⟨a, b, c, hC _ _ _ _ _ _ (zbackx_mono hPP) d⟩
theorem zm_iret  : zmono (zt_iret ) := by
  intro C R P P' hC hPP ls st h n cu su ht
  revert ht
  unfold zt_iret
  first
    | exact hPP _ _ _ _ _ _ _
    | exact id
    | exact fun ⟨a, b⟩ => ⟨a, hPP _ _ _ _ _ _ _ b⟩
    | (repeat' split) <;> first
      | exact hPP _ _ _ _ _ _ _
      | exact id
      | exact fun ⟨a, b⟩ => ⟨a, hPP _ _ _ _ _ _ _ b⟩
      | exact fun ⟨a, b⟩ => ⟨fun k => hPP _ _ _ _ _ _ _ (a k), fun k => hPP _ _ _ _ _ _ _ (b k)⟩
      | exact fun ⟨a, b⟩ => ⟨fun q hq k => hPP _ _ _ _ _ _ _ (a q hq k), fun k => hPP _ _ _ _ _ _ _ (b k)⟩
      | exact fun ⟨a, b, c, d, e⟩ => ⟨a, b, c, d, hPP _ _ _ _ _ _ _ e⟩
      | exact fun ⟨a, b, c, d⟩ => ⟨a, b, c, hPP _ _ _ _ _ _ _ d⟩
      | exact fun ⟨a, b, c, d, e, f⟩ => ⟨a, b, c, d, e, hPP _ _ _ _ _ _ _ f⟩
      | exact hC _ _ _ _ _ _ (zback_mono hPP)
      | exact fun ⟨a, b, c⟩ => ⟨a, b, hC _ _ _ _ _ _ (zback_mono hPP) c⟩
      | exact fun ⟨a, b⟩ => ⟨a, hC _ _ _ _ _ _ (zback_mono hPP) b⟩
      | exact fun ⟨a, b, c, d⟩ => ⟨a, b, c, hC _ _ _ _ _ _ (zback_mono hPP) d⟩
      | exact fun ⟨a, b, c, d⟩ => ⟨a, b, c, hC _ _ _ _ _ _ (zbackx_mono hPP) d⟩
theorem zm_zret  : zmono (zt_zret ) := by
  intro C R P P' hC hPP ls st h n cu su ht
  revert ht
  unfold zt_zret
  first
    | exact hPP _ _ _ _ _ _ _
    | exact id
    | exact fun ⟨a, b⟩ => ⟨a, hPP _ _ _ _ _ _ _ b⟩
    | (repeat' split) <;> first
      | exact hPP _ _ _ _ _ _ _
      | exact id
      | exact fun ⟨a, b⟩ => ⟨a, hPP _ _ _ _ _ _ _ b⟩
      | exact fun ⟨a, b⟩ => ⟨fun k => hPP _ _ _ _ _ _ _ (a k), fun k => hPP _ _ _ _ _ _ _ (b k)⟩
      | exact fun ⟨a, b⟩ => ⟨fun q hq k => hPP _ _ _ _ _ _ _ (a q hq k), fun k => hPP _ _ _ _ _ _ _ (b k)⟩
      | exact fun ⟨a, b, c, d, e⟩ => ⟨a, b, c, d, hPP _ _ _ _ _ _ _ e⟩
      | exact fun ⟨a, b, c, d⟩ => ⟨a, b, c, hPP _ _ _ _ _ _ _ d⟩
      | exact fun ⟨a, b, c, d, e, f⟩ => ⟨a, b, c, d, e, hPP _ _ _ _ _ _ _ f⟩
      | exact hC _ _ _ _ _ _ (zback_mono hPP)
      | exact fun ⟨a, b, c⟩ => ⟨a, b, hC _ _ _ _ _ _ (zback_mono hPP) c⟩
      | exact fun ⟨a, b⟩ => ⟨a, hC _ _ _ _ _ _ (zback_mono hPP) b⟩
      | exact fun ⟨a, b, c, d⟩ => ⟨a, b, c, hC _ _ _ _ _ _ (zback_mono hPP) d⟩
      | exact fun ⟨a, b, c, d⟩ => ⟨a, b, c, hC _ _ _ _ _ _ (zbackx_mono hPP) d⟩
theorem zm_lret  : zmono (zt_lret ) := by
  intro C R P P' hC hPP ls st h n cu su ht
  revert ht
  unfold zt_lret
  first
    | exact hPP _ _ _ _ _ _ _
    | exact id
    | exact fun ⟨a, b⟩ => ⟨a, hPP _ _ _ _ _ _ _ b⟩
    | (repeat' split) <;> first
      | exact hPP _ _ _ _ _ _ _
      | exact id
      | exact fun ⟨a, b⟩ => ⟨a, hPP _ _ _ _ _ _ _ b⟩
      | exact fun ⟨a, b⟩ => ⟨fun k => hPP _ _ _ _ _ _ _ (a k), fun k => hPP _ _ _ _ _ _ _ (b k)⟩
      | exact fun ⟨a, b⟩ => ⟨fun q hq k => hPP _ _ _ _ _ _ _ (a q hq k), fun k => hPP _ _ _ _ _ _ _ (b k)⟩
      | exact fun ⟨a, b, c, d, e⟩ => ⟨a, b, c, d, hPP _ _ _ _ _ _ _ e⟩
      | exact fun ⟨a, b, c, d⟩ => ⟨a, b, c, hPP _ _ _ _ _ _ _ d⟩
      | exact fun ⟨a, b, c, d, e, f⟩ => ⟨a, b, c, d, e, hPP _ _ _ _ _ _ _ f⟩
      | exact hC _ _ _ _ _ _ (zback_mono hPP)
      | exact fun ⟨a, b, c⟩ => ⟨a, b, hC _ _ _ _ _ _ (zback_mono hPP) c⟩
      | exact fun ⟨a, b⟩ => ⟨a, hC _ _ _ _ _ _ (zback_mono hPP) b⟩
      | exact fun ⟨a, b, c, d⟩ => ⟨a, b, c, hC _ _ _ _ _ _ (zback_mono hPP) d⟩
      | exact fun ⟨a, b, c, d⟩ => ⟨a, b, c, hC _ _ _ _ _ _ (zbackx_mono hPP) d⟩
theorem zm_dret  : zmono (zt_dret ) := by
  intro C R P P' hC hPP ls st h n cu su ht
  revert ht
  unfold zt_dret
  first
    | exact hPP _ _ _ _ _ _ _
    | exact id
    | exact fun ⟨a, b⟩ => ⟨a, hPP _ _ _ _ _ _ _ b⟩
    | (repeat' split) <;> first
      | exact hPP _ _ _ _ _ _ _
      | exact id
      | exact fun ⟨a, b⟩ => ⟨a, hPP _ _ _ _ _ _ _ b⟩
      | exact fun ⟨a, b⟩ => ⟨fun k => hPP _ _ _ _ _ _ _ (a k), fun k => hPP _ _ _ _ _ _ _ (b k)⟩
      | exact fun ⟨a, b⟩ => ⟨fun q hq k => hPP _ _ _ _ _ _ _ (a q hq k), fun k => hPP _ _ _ _ _ _ _ (b k)⟩
      | exact fun ⟨a, b, c, d, e⟩ => ⟨a, b, c, d, hPP _ _ _ _ _ _ _ e⟩
      | exact fun ⟨a, b, c, d⟩ => ⟨a, b, c, hPP _ _ _ _ _ _ _ d⟩
      | exact fun ⟨a, b, c, d, e, f⟩ => ⟨a, b, c, d, e, hPP _ _ _ _ _ _ _ f⟩
      | exact hC _ _ _ _ _ _ (zback_mono hPP)
      | exact fun ⟨a, b, c⟩ => ⟨a, b, hC _ _ _ _ _ _ (zback_mono hPP) c⟩
      | exact fun ⟨a, b⟩ => ⟨a, hC _ _ _ _ _ _ (zback_mono hPP) b⟩
      | exact fun ⟨a, b, c, d⟩ => ⟨a, b, c, hC _ _ _ _ _ _ (zback_mono hPP) d⟩
      | exact fun ⟨a, b, c, d⟩ => ⟨a, b, c, hC _ _ _ _ _ _ (zbackx_mono hPP) d⟩
theorem zm_aret  : zmono (zt_aret ) := by
  intro C R P P' hC hPP ls st h n cu su ht
  revert ht
  unfold zt_aret
  first
    | exact hPP _ _ _ _ _ _ _
    | exact id
    | exact fun ⟨a, b⟩ => ⟨a, hPP _ _ _ _ _ _ _ b⟩
    | (repeat' split) <;> first
      | exact hPP _ _ _ _ _ _ _
      | exact id
      | exact fun ⟨a, b⟩ => ⟨a, hPP _ _ _ _ _ _ _ b⟩
      | exact fun ⟨a, b⟩ => ⟨fun k => hPP _ _ _ _ _ _ _ (a k), fun k => hPP _ _ _ _ _ _ _ (b k)⟩
      | exact fun ⟨a, b⟩ => ⟨fun q hq k => hPP _ _ _ _ _ _ _ (a q hq k), fun k => hPP _ _ _ _ _ _ _ (b k)⟩
      | exact fun ⟨a, b, c, d, e⟩ => ⟨a, b, c, d, hPP _ _ _ _ _ _ _ e⟩
      | exact fun ⟨a, b, c, d⟩ => ⟨a, b, c, hPP _ _ _ _ _ _ _ d⟩
      | exact fun ⟨a, b, c, d, e, f⟩ => ⟨a, b, c, d, e, hPP _ _ _ _ _ _ _ f⟩
      | exact hC _ _ _ _ _ _ (zback_mono hPP)
      | exact fun ⟨a, b, c⟩ => ⟨a, b, hC _ _ _ _ _ _ (zback_mono hPP) c⟩
      | exact fun ⟨a, b⟩ => ⟨a, hC _ _ _ _ _ _ (zback_mono hPP) b⟩
      | exact fun ⟨a, b, c, d⟩ => ⟨a, b, c, hC _ _ _ _ _ _ (zback_mono hPP) d⟩
      | exact fun ⟨a, b, c, d⟩ => ⟨a, b, c, hC _ _ _ _ _ _ (zbackx_mono hPP) d⟩
theorem zm_vret  : zmono (zt_vret ) := by
  intro C R P P' hC hPP ls st h n cu su ht
  revert ht
  unfold zt_vret
  first
    | exact hPP _ _ _ _ _ _ _
    | exact id
    | exact fun ⟨a, b⟩ => ⟨a, hPP _ _ _ _ _ _ _ b⟩
    | (repeat' split) <;> first
      | exact hPP _ _ _ _ _ _ _
      | exact id
      | exact fun ⟨a, b⟩ => ⟨a, hPP _ _ _ _ _ _ _ b⟩
      | exact fun ⟨a, b⟩ => ⟨fun k => hPP _ _ _ _ _ _ _ (a k), fun k => hPP _ _ _ _ _ _ _ (b k)⟩
      | exact fun ⟨a, b⟩ => ⟨fun q hq k => hPP _ _ _ _ _ _ _ (a q hq k), fun k => hPP _ _ _ _ _ _ _ (b k)⟩
      | exact fun ⟨a, b, c, d, e⟩ => ⟨a, b, c, d, hPP _ _ _ _ _ _ _ e⟩
      | exact fun ⟨a, b, c, d⟩ => ⟨a, b, c, hPP _ _ _ _ _ _ _ d⟩
      | exact fun ⟨a, b, c, d, e, f⟩ => ⟨a, b, c, d, e, hPP _ _ _ _ _ _ _ f⟩
      | exact hC _ _ _ _ _ _ (zback_mono hPP)
      | exact fun ⟨a, b, c⟩ => ⟨a, b, hC _ _ _ _ _ _ (zback_mono hPP) c⟩
      | exact fun ⟨a, b⟩ => ⟨a, hC _ _ _ _ _ _ (zback_mono hPP) b⟩
      | exact fun ⟨a, b, c, d⟩ => ⟨a, b, c, hC _ _ _ _ _ _ (zback_mono hPP) d⟩
      | exact fun ⟨a, b, c, d⟩ => ⟨a, b, c, hC _ _ _ _ _ _ (zbackx_mono hPP) d⟩
