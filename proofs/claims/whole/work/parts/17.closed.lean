/-! the contracts of the tables hold of the machine -/
/-- all contracts of the table-driven machine: whoever is closed under the steps of a method's table bounds it -/
def zCld (NM : Nat) (TT : Nat → Nat × List (List (Nat × zT))) (C : zK) : Prop :=
  (∀ y as h n (Q Q' : zQ), (∀ x r h n, Q x r h n → Q' x r h n) → C y as h n Q → C y as h n Q') ∧
  ∀ y, y < NM → ∀ as h n (Q : zQ), Nat.ble (zarg as).length (TT y).1 = true → (∀ P : zP, (∀ pc ls st h n cu su, zstep (TT y).2 C Q P pc ls st h n cu su → P pc ls st h n cu su) → zfgt P → P 0 (zent (TT y).1 as) [] h n 0 0) → C y as h n Q
theorem zarg_sl : ∀ (as : List Value), (lg_sl (as.map (zv (fun i => i)))).length = (zarg as).length := by
  intro as
  induction as with
  | nil => rfl
  | cons v vs ih =>
    unfold lg_sl at ih ⊢
    simp only [List.map_cons, List.flatMap_cons, List.length_append, ih]
    cases v <;> simp [zarg, zv, Value.category, Nat.add_comm] <;> omega
def zTTl : List (Nat × List (List (Nat × zT))) := [
  (3, zT_X0_init),
  (2, zT_X0_holds),
  (1, zT_X0_isFull),
  (2, zT_X0_numberAt),
  (2, zT_X0_contentAt),
  (3, zT_X0_find),
  (2, zT_X0_contentOf),
  (4, zT_X0_replaceContent),
  (5, zT_X0_putIn),
  (3, zT_X0_putLast),
  (4, zT_X0_takeOut),
  (5, zT_X0_shift),
  (1, zT_X0_clear),
  (3, zT_X0_copyFrom),
  (3, zT_X0_isLike),
  (6, zT_X0_countShared),
  (1, zT_X1_init),
  (2, zT_X1_codeAt),
  (2, zT_X1_putLast),
  (2, zT_X1_forget),
  (2, zT_X1_findError),
  (1, zT_X1_isComplete),
  (1, zT_X1_beginReading),
  (1, zT_X1_commandIsWhole),
  (2, zT_X1_take),
  (2, zT_X1_takeDraft),
  (2, zT_X1_takeKind),
  (3, zT_X1_takeFirst),
  (3, zT_X1_takeSecond),
  (4, zT_X1_withDigit),
  (1, zT_X2_init),
  (2, zT_X2_of),
  (2, zT_X2_edits),
  (2, zT_X2_moved),
  (2, zT_X2_removes),
  (4, zT_X2_countMoved),
  (4, zT_X2_compare),
  (4, zT_X2_changeUnlessKept),
  (6, zT_X2_measureAscending),
  (7, zT_X2_lengthFrom),
  (8, zT_X2_markKept),
  (8, zT_X2_leastStart),
  (2, zT_X3_init),
  (2, zT_X3_keep),
  (2, zT_X3_restoreLast),
  (2, zT_X3_slot),
  (2, zT_X3_copy),
  (1, zT_X4_init),
  (2, zT_X4_changesOf),
  (2, zT_X4_hasConflict),
  (2, zT_X4_blockOfConflict),
  (2, zT_X4_kindOfConflict),
  (4, zT_X4_countOpen),
  (3, zT_X4_make),
  (5, zT_X4_decide),
  (5, zT_X4_decideRemoved),
  (5, zT_X4_contentFromBoth),
  (5, zT_X4_placeFromBoth),
  (2, zT_X4_numberBefore),
  (3, zT_X4_addConflict),
  (6, zT_X4_putBlocksOf),
  (5, zT_X4_placeBehind),
  (1, zT_X5_init),
  (2, zT_X5_draft),
  (1, zT_X5_baseCanGrow),
  (3, zT_X5_growBase),
  (5, zT_X5_putNewBlock),
  (2, zT_X5_takeNumber),
  (3, zT_X5_choice),
  (4, zT_X5_choiceOrPreferred),
  (5, zT_X5_setChoice),
  (2, zT_X5_choiceIndex),
  (3, zT_X5_takeAsBase),
  (3, zT_X5_copyFrom),
  (1, zT_X6_init),
  (2, zT_X6_addBase),
  (5, zT_X6_edit),
  (4, zT_X6_move),
  (5, zT_X6_insert),
  (3, zT_X6_remove),
  (1, zT_X6_baseSize),
  (2, zT_X6_size),
  (3, zT_X6_block),
  (3, zT_X6_content),
  (3, zT_X6_change),
  (2, zT_X6_moves),
  (1, zT_X6_mergedSize),
  (2, zT_X6_mergedBlock),
  (2, zT_X6_mergedContent),
  (1, zT_X6_conflicts),
  (2, zT_X6_conflictBlock),
  (2, zT_X6_conflictKind),
  (3, zT_X6_choose),
  (3, zT_X6_prefer),
  (1, zT_X6_open),
  (1, zT_X6_accept),
  (1, zT_X6_accepted),
  (4, zT_X6_similarity),
  (2, zT_X6_append),
  (1, zT_X6_clearText),
  (1, zT_X6_firstError),
  (2, zT_X6_run),
  (1, zT_X6_undo),
  (1, zT_X6_savedStates),
  (4, zT_X6_digest),
  (6, zT_X6_mixedWithBlocks),
  (3, zT_X6_mixed),
  (1, zT_X6_isDraft),
  (1, zT_X6_isContent),
  (3, zT_X6_hasPosition),
  (4, zT_X6_editFault),
  (4, zT_X6_moveFault),
  (4, zT_X6_insertFault),
  (3, zT_X6_removeFault),
  (4, zT_X6_executeText),
  (4, zT_X6_executeCommand),
  (2, zT_X6_cell),
  (3, zT_X6_setCell),
  (1, zT_X7_init),
  (1, zT_X7_thrown),
  (2, zT_X7_refused),
  (3, zT_X7_in),
  (2, zT_X7_saves),
  (1, zT_X7_isDraft),
  (2, zT_X7_at),
  (2, zT_X7_sizeOf),
  (3, zT_X7_numberAt),
  (3, zT_X7_insideAt),
  (3, zT_X7_isThere),
  (4, zT_X7_placeOf),
  (3, zT_X7_has),
  (3, zT_X7_contentIn),
  (3, zT_X7_doesEdit),
  (6, zT_X7_puts),
  (4, zT_X7_takes),
  (4, zT_X7_isChanged),
  (3, zT_X7_addBase),
  (4, zT_X7_barEdit),
  (4, zT_X7_barMove),
  (4, zT_X7_barInsert),
  (3, zT_X7_barRemove),
  (5, zT_X7_edits),
  (6, zT_X7_shifts),
  (5, zT_X7_inserts),
  (4, zT_X7_removes),
  (4, zT_X7_edit),
  (4, zT_X7_move),
  (4, zT_X7_insert),
  (3, zT_X7_remove),
  (1, zT_X7_baseSize),
  (2, zT_X7_size),
  (3, zT_X7_block),
  (3, zT_X7_content),
  (9, zT_X7_keeps),
  (3, zT_X7_doesMove),
  (3, zT_X7_changeOf),
  (3, zT_X7_change),
  (4, zT_X7_moves),
  (4, zT_X7_chosen),
  (4, zT_X7_ahead),
  (5, zT_X7_judges),
  (4, zT_X7_mergedAt),
  (5, zT_X7_lays),
  (7, zT_X7_laysOf),
  (2, zT_X7_merges),
  (1, zT_X7_mergedSize),
  (2, zT_X7_mergedBlock),
  (2, zT_X7_mergedContent),
  (1, zT_X7_conflicts),
  (2, zT_X7_conflictBlock),
  (2, zT_X7_conflictKind),
  (5, zT_X7_choose),
  (3, zT_X7_prefer),
  (3, zT_X7_openOnes),
  (1, zT_X7_open),
  (3, zT_X7_accept),
  (1, zT_X7_accepted),
  (6, zT_X7_similarity),
  (2, zT_X7_append),
  (2, zT_X7_clearText),
  (1, zT_X7_next),
  (2, zT_X7_sign),
  (3, zT_X7_digit),
  (4, zT_X7_number),
  (1, zT_X7_command),
  (2, zT_X7_isWhole),
  (2, zT_X7_firstError),
  (1, zT_X7_bars),
  (1, zT_X7_does),
  (4, zT_X7_run),
  (2, zT_X7_undo),
  (1, zT_X7_savedStates),
  (5, zT_X7_digest),
  (4, zT_JA_fill),
  (4, zT_L_addBase),
  (6, zT_L_edit),
  (6, zT_L_move),
  (6, zT_L_insert),
  (5, zT_L_remove),
  (4, zT_L_size),
  (5, zT_L_block),
  (5, zT_L_content),
  (5, zT_L_change),
  (4, zT_L_moves),
  (4, zT_L_mergedBlock),
  (4, zT_L_mergedContent),
  (4, zT_L_conflictBlock),
  (4, zT_L_conflictKind),
  (5, zT_L_choose),
  (4, zT_L_prefer),
  (3, zT_L_accept),
  (4, zT_L_similarity),
  (4, zT_L_append),
  (3, zT_L_run),
  (3, zT_L_undo)]
def zTT : Nat → Nat × List (List (Nat × zT)) := fun k => zTTl.getD k (0, [])
def zClAt (C : zK) (y : Nat) : Prop := ∀ as h n (Q : zQ), Nat.ble (zarg as).length (zTT y).1 = true → (∀ P : zP, (∀ pc ls st h n cu su, zstep (zTT y).2 C Q P pc ls st h n cu su → P pc ls st h n cu su) → zfgt P → P 0 (zent (zTT y).1 as) [] h n 0 0) → C y as h n Q
section ZCl
variable {l : Launch} {D : va_G} {dA : Nat → ClassId}
theorem zCl_0 (hst : l.stackTraces = false) : zClAt (zMet l D vwCl dA RX5 zSt zNw zNc zMt) 0 := fun as h n Q hlen hP =>
  z_meth (T := zT_X0_init) zcal_0 (by decide +kernel) (Nat.le_trans (Nat.le_of_eq (zarg_sl as)) (Nat.le_of_ble_eq_true hlen)) (fun ad0 p e s m args below meth c F hr hl hn ht hK hE L hL q hq => zE_X0_init L hL q hq ⟨F, hr, hl, hn, ht, hK, hE, hst⟩) hP
theorem zCl_1 (hst : l.stackTraces = false) : zClAt (zMet l D vwCl dA RX5 zSt zNw zNc zMt) 1 := fun as h n Q hlen hP =>
  z_meth (T := zT_X0_holds) zcal_1 (by decide +kernel) (Nat.le_trans (Nat.le_of_eq (zarg_sl as)) (Nat.le_of_ble_eq_true hlen)) (fun ad0 p e s m args below meth c F hr hl hn ht hK hE L hL q hq => zE_X0_holds L hL q hq ⟨F, hr, hl, hn, ht, hK, hE, hst⟩) hP
theorem zCl_2 (hst : l.stackTraces = false) : zClAt (zMet l D vwCl dA RX5 zSt zNw zNc zMt) 2 := fun as h n Q hlen hP =>
  z_meth (T := zT_X0_isFull) zcal_2 (by decide +kernel) (Nat.le_trans (Nat.le_of_eq (zarg_sl as)) (Nat.le_of_ble_eq_true hlen)) (fun ad0 p e s m args below meth c F hr hl hn ht hK hE L hL q hq => zE_X0_isFull L hL q hq ⟨F, hr, hl, hn, ht, hK, hE, hst⟩) hP
theorem zCl_3 (hst : l.stackTraces = false) : zClAt (zMet l D vwCl dA RX5 zSt zNw zNc zMt) 3 := fun as h n Q hlen hP =>
  z_meth (T := zT_X0_numberAt) zcal_3 (by decide +kernel) (Nat.le_trans (Nat.le_of_eq (zarg_sl as)) (Nat.le_of_ble_eq_true hlen)) (fun ad0 p e s m args below meth c F hr hl hn ht hK hE L hL q hq => zE_X0_numberAt L hL q hq ⟨F, hr, hl, hn, ht, hK, hE, hst⟩) hP
theorem zCl_4 (hst : l.stackTraces = false) : zClAt (zMet l D vwCl dA RX5 zSt zNw zNc zMt) 4 := fun as h n Q hlen hP =>
  z_meth (T := zT_X0_contentAt) zcal_4 (by decide +kernel) (Nat.le_trans (Nat.le_of_eq (zarg_sl as)) (Nat.le_of_ble_eq_true hlen)) (fun ad0 p e s m args below meth c F hr hl hn ht hK hE L hL q hq => zE_X0_contentAt L hL q hq ⟨F, hr, hl, hn, ht, hK, hE, hst⟩) hP
theorem zCl_5 (hst : l.stackTraces = false) : zClAt (zMet l D vwCl dA RX5 zSt zNw zNc zMt) 5 := fun as h n Q hlen hP =>
  z_meth (T := zT_X0_find) zcal_5 (by decide +kernel) (Nat.le_trans (Nat.le_of_eq (zarg_sl as)) (Nat.le_of_ble_eq_true hlen)) (fun ad0 p e s m args below meth c F hr hl hn ht hK hE L hL q hq => zE_X0_find L hL q hq ⟨F, hr, hl, hn, ht, hK, hE, hst⟩) hP
theorem zCl_6 (hst : l.stackTraces = false) : zClAt (zMet l D vwCl dA RX5 zSt zNw zNc zMt) 6 := fun as h n Q hlen hP =>
  z_meth (T := zT_X0_contentOf) zcal_6 (by decide +kernel) (Nat.le_trans (Nat.le_of_eq (zarg_sl as)) (Nat.le_of_ble_eq_true hlen)) (fun ad0 p e s m args below meth c F hr hl hn ht hK hE L hL q hq => zE_X0_contentOf L hL q hq ⟨F, hr, hl, hn, ht, hK, hE, hst⟩) hP
theorem zCl_7 (hst : l.stackTraces = false) : zClAt (zMet l D vwCl dA RX5 zSt zNw zNc zMt) 7 := fun as h n Q hlen hP =>
  z_meth (T := zT_X0_replaceContent) zcal_7 (by decide +kernel) (Nat.le_trans (Nat.le_of_eq (zarg_sl as)) (Nat.le_of_ble_eq_true hlen)) (fun ad0 p e s m args below meth c F hr hl hn ht hK hE L hL q hq => zE_X0_replaceContent L hL q hq ⟨F, hr, hl, hn, ht, hK, hE, hst⟩) hP
theorem zCl_8 (hst : l.stackTraces = false) : zClAt (zMet l D vwCl dA RX5 zSt zNw zNc zMt) 8 := fun as h n Q hlen hP =>
  z_meth (T := zT_X0_putIn) zcal_8 (by decide +kernel) (Nat.le_trans (Nat.le_of_eq (zarg_sl as)) (Nat.le_of_ble_eq_true hlen)) (fun ad0 p e s m args below meth c F hr hl hn ht hK hE L hL q hq => zE_X0_putIn L hL q hq ⟨F, hr, hl, hn, ht, hK, hE, hst⟩) hP
theorem zCl_9 (hst : l.stackTraces = false) : zClAt (zMet l D vwCl dA RX5 zSt zNw zNc zMt) 9 := fun as h n Q hlen hP =>
  z_meth (T := zT_X0_putLast) zcal_9 (by decide +kernel) (Nat.le_trans (Nat.le_of_eq (zarg_sl as)) (Nat.le_of_ble_eq_true hlen)) (fun ad0 p e s m args below meth c F hr hl hn ht hK hE L hL q hq => zE_X0_putLast L hL q hq ⟨F, hr, hl, hn, ht, hK, hE, hst⟩) hP
theorem zCl_10 (hst : l.stackTraces = false) : zClAt (zMet l D vwCl dA RX5 zSt zNw zNc zMt) 10 := fun as h n Q hlen hP =>
  z_meth (T := zT_X0_takeOut) zcal_10 (by decide +kernel) (Nat.le_trans (Nat.le_of_eq (zarg_sl as)) (Nat.le_of_ble_eq_true hlen)) (fun ad0 p e s m args below meth c F hr hl hn ht hK hE L hL q hq => zE_X0_takeOut L hL q hq ⟨F, hr, hl, hn, ht, hK, hE, hst⟩) hP
theorem zCl_11 (hst : l.stackTraces = false) : zClAt (zMet l D vwCl dA RX5 zSt zNw zNc zMt) 11 := fun as h n Q hlen hP =>
  z_meth (T := zT_X0_shift) zcal_11 (by decide +kernel) (Nat.le_trans (Nat.le_of_eq (zarg_sl as)) (Nat.le_of_ble_eq_true hlen)) (fun ad0 p e s m args below meth c F hr hl hn ht hK hE L hL q hq => zE_X0_shift L hL q hq ⟨F, hr, hl, hn, ht, hK, hE, hst⟩) hP
theorem zCl_12 (hst : l.stackTraces = false) : zClAt (zMet l D vwCl dA RX5 zSt zNw zNc zMt) 12 := fun as h n Q hlen hP =>
  z_meth (T := zT_X0_clear) zcal_12 (by decide +kernel) (Nat.le_trans (Nat.le_of_eq (zarg_sl as)) (Nat.le_of_ble_eq_true hlen)) (fun ad0 p e s m args below meth c F hr hl hn ht hK hE L hL q hq => zE_X0_clear L hL q hq ⟨F, hr, hl, hn, ht, hK, hE, hst⟩) hP
theorem zCl_13 (hst : l.stackTraces = false) : zClAt (zMet l D vwCl dA RX5 zSt zNw zNc zMt) 13 := fun as h n Q hlen hP =>
  z_meth (T := zT_X0_copyFrom) zcal_13 (by decide +kernel) (Nat.le_trans (Nat.le_of_eq (zarg_sl as)) (Nat.le_of_ble_eq_true hlen)) (fun ad0 p e s m args below meth c F hr hl hn ht hK hE L hL q hq => zE_X0_copyFrom L hL q hq ⟨F, hr, hl, hn, ht, hK, hE, hst⟩) hP
theorem zCl_14 (hst : l.stackTraces = false) : zClAt (zMet l D vwCl dA RX5 zSt zNw zNc zMt) 14 := fun as h n Q hlen hP =>
  z_meth (T := zT_X0_isLike) zcal_14 (by decide +kernel) (Nat.le_trans (Nat.le_of_eq (zarg_sl as)) (Nat.le_of_ble_eq_true hlen)) (fun ad0 p e s m args below meth c F hr hl hn ht hK hE L hL q hq => zE_X0_isLike L hL q hq ⟨F, hr, hl, hn, ht, hK, hE, hst⟩) hP
theorem zCl_15 (hst : l.stackTraces = false) : zClAt (zMet l D vwCl dA RX5 zSt zNw zNc zMt) 15 := fun as h n Q hlen hP =>
  z_meth (T := zT_X0_countShared) zcal_15 (by decide +kernel) (Nat.le_trans (Nat.le_of_eq (zarg_sl as)) (Nat.le_of_ble_eq_true hlen)) (fun ad0 p e s m args below meth c F hr hl hn ht hK hE L hL q hq => zE_X0_countShared L hL q hq ⟨F, hr, hl, hn, ht, hK, hE, hst⟩) hP
theorem zCl_16 (hst : l.stackTraces = false) : zClAt (zMet l D vwCl dA RX5 zSt zNw zNc zMt) 16 := fun as h n Q hlen hP =>
  z_meth (T := zT_X1_init) zcal_16 (by decide +kernel) (Nat.le_trans (Nat.le_of_eq (zarg_sl as)) (Nat.le_of_ble_eq_true hlen)) (fun ad0 p e s m args below meth c F hr hl hn ht hK hE L hL q hq => zE_X1_init L hL q hq ⟨F, hr, hl, hn, ht, hK, hE, hst⟩) hP
theorem zCl_17 (hst : l.stackTraces = false) : zClAt (zMet l D vwCl dA RX5 zSt zNw zNc zMt) 17 := fun as h n Q hlen hP =>
  z_meth (T := zT_X1_codeAt) zcal_17 (by decide +kernel) (Nat.le_trans (Nat.le_of_eq (zarg_sl as)) (Nat.le_of_ble_eq_true hlen)) (fun ad0 p e s m args below meth c F hr hl hn ht hK hE L hL q hq => zE_X1_codeAt L hL q hq ⟨F, hr, hl, hn, ht, hK, hE, hst⟩) hP
theorem zCl_18 (hst : l.stackTraces = false) : zClAt (zMet l D vwCl dA RX5 zSt zNw zNc zMt) 18 := fun as h n Q hlen hP =>
  z_meth (T := zT_X1_putLast) zcal_18 (by decide +kernel) (Nat.le_trans (Nat.le_of_eq (zarg_sl as)) (Nat.le_of_ble_eq_true hlen)) (fun ad0 p e s m args below meth c F hr hl hn ht hK hE L hL q hq => zE_X1_putLast L hL q hq ⟨F, hr, hl, hn, ht, hK, hE, hst⟩) hP
theorem zCl_19 (hst : l.stackTraces = false) : zClAt (zMet l D vwCl dA RX5 zSt zNw zNc zMt) 19 := fun as h n Q hlen hP =>
  z_meth (T := zT_X1_forget) zcal_19 (by decide +kernel) (Nat.le_trans (Nat.le_of_eq (zarg_sl as)) (Nat.le_of_ble_eq_true hlen)) (fun ad0 p e s m args below meth c F hr hl hn ht hK hE L hL q hq => zE_X1_forget L hL q hq ⟨F, hr, hl, hn, ht, hK, hE, hst⟩) hP
theorem zCl_20 (hst : l.stackTraces = false) : zClAt (zMet l D vwCl dA RX5 zSt zNw zNc zMt) 20 := fun as h n Q hlen hP =>
  z_meth (T := zT_X1_findError) zcal_20 (by decide +kernel) (Nat.le_trans (Nat.le_of_eq (zarg_sl as)) (Nat.le_of_ble_eq_true hlen)) (fun ad0 p e s m args below meth c F hr hl hn ht hK hE L hL q hq => zE_X1_findError L hL q hq ⟨F, hr, hl, hn, ht, hK, hE, hst⟩) hP
theorem zCl_21 (hst : l.stackTraces = false) : zClAt (zMet l D vwCl dA RX5 zSt zNw zNc zMt) 21 := fun as h n Q hlen hP =>
  z_meth (T := zT_X1_isComplete) zcal_21 (by decide +kernel) (Nat.le_trans (Nat.le_of_eq (zarg_sl as)) (Nat.le_of_ble_eq_true hlen)) (fun ad0 p e s m args below meth c F hr hl hn ht hK hE L hL q hq => zE_X1_isComplete L hL q hq ⟨F, hr, hl, hn, ht, hK, hE, hst⟩) hP
theorem zCl_22 (hst : l.stackTraces = false) : zClAt (zMet l D vwCl dA RX5 zSt zNw zNc zMt) 22 := fun as h n Q hlen hP =>
  z_meth (T := zT_X1_beginReading) zcal_22 (by decide +kernel) (Nat.le_trans (Nat.le_of_eq (zarg_sl as)) (Nat.le_of_ble_eq_true hlen)) (fun ad0 p e s m args below meth c F hr hl hn ht hK hE L hL q hq => zE_X1_beginReading L hL q hq ⟨F, hr, hl, hn, ht, hK, hE, hst⟩) hP
theorem zCl_23 (hst : l.stackTraces = false) : zClAt (zMet l D vwCl dA RX5 zSt zNw zNc zMt) 23 := fun as h n Q hlen hP =>
  z_meth (T := zT_X1_commandIsWhole) zcal_23 (by decide +kernel) (Nat.le_trans (Nat.le_of_eq (zarg_sl as)) (Nat.le_of_ble_eq_true hlen)) (fun ad0 p e s m args below meth c F hr hl hn ht hK hE L hL q hq => zE_X1_commandIsWhole L hL q hq ⟨F, hr, hl, hn, ht, hK, hE, hst⟩) hP
theorem zCl_24 (hst : l.stackTraces = false) : zClAt (zMet l D vwCl dA RX5 zSt zNw zNc zMt) 24 := fun as h n Q hlen hP =>
  z_meth (T := zT_X1_take) zcal_24 (by decide +kernel) (Nat.le_trans (Nat.le_of_eq (zarg_sl as)) (Nat.le_of_ble_eq_true hlen)) (fun ad0 p e s m args below meth c F hr hl hn ht hK hE L hL q hq => zE_X1_take L hL q hq ⟨F, hr, hl, hn, ht, hK, hE, hst⟩) hP
theorem zCl_25 (hst : l.stackTraces = false) : zClAt (zMet l D vwCl dA RX5 zSt zNw zNc zMt) 25 := fun as h n Q hlen hP =>
  z_meth (T := zT_X1_takeDraft) zcal_25 (by decide +kernel) (Nat.le_trans (Nat.le_of_eq (zarg_sl as)) (Nat.le_of_ble_eq_true hlen)) (fun ad0 p e s m args below meth c F hr hl hn ht hK hE L hL q hq => zE_X1_takeDraft L hL q hq ⟨F, hr, hl, hn, ht, hK, hE, hst⟩) hP
theorem zCl_26 (hst : l.stackTraces = false) : zClAt (zMet l D vwCl dA RX5 zSt zNw zNc zMt) 26 := fun as h n Q hlen hP =>
  z_meth (T := zT_X1_takeKind) zcal_26 (by decide +kernel) (Nat.le_trans (Nat.le_of_eq (zarg_sl as)) (Nat.le_of_ble_eq_true hlen)) (fun ad0 p e s m args below meth c F hr hl hn ht hK hE L hL q hq => zE_X1_takeKind L hL q hq ⟨F, hr, hl, hn, ht, hK, hE, hst⟩) hP
theorem zCl_27 (hst : l.stackTraces = false) : zClAt (zMet l D vwCl dA RX5 zSt zNw zNc zMt) 27 := fun as h n Q hlen hP =>
  z_meth (T := zT_X1_takeFirst) zcal_27 (by decide +kernel) (Nat.le_trans (Nat.le_of_eq (zarg_sl as)) (Nat.le_of_ble_eq_true hlen)) (fun ad0 p e s m args below meth c F hr hl hn ht hK hE L hL q hq => zE_X1_takeFirst L hL q hq ⟨F, hr, hl, hn, ht, hK, hE, hst⟩) hP
theorem zCl_28 (hst : l.stackTraces = false) : zClAt (zMet l D vwCl dA RX5 zSt zNw zNc zMt) 28 := fun as h n Q hlen hP =>
  z_meth (T := zT_X1_takeSecond) zcal_28 (by decide +kernel) (Nat.le_trans (Nat.le_of_eq (zarg_sl as)) (Nat.le_of_ble_eq_true hlen)) (fun ad0 p e s m args below meth c F hr hl hn ht hK hE L hL q hq => zE_X1_takeSecond L hL q hq ⟨F, hr, hl, hn, ht, hK, hE, hst⟩) hP
theorem zCl_29 (hst : l.stackTraces = false) : zClAt (zMet l D vwCl dA RX5 zSt zNw zNc zMt) 29 := fun as h n Q hlen hP =>
  z_meth (T := zT_X1_withDigit) zcal_29 (by decide +kernel) (Nat.le_trans (Nat.le_of_eq (zarg_sl as)) (Nat.le_of_ble_eq_true hlen)) (fun ad0 p e s m args below meth c F hr hl hn ht hK hE L hL q hq => zE_X1_withDigit L hL q hq ⟨F, hr, hl, hn, ht, hK, hE, hst⟩) hP
theorem zCl_30 (hst : l.stackTraces = false) : zClAt (zMet l D vwCl dA RX5 zSt zNw zNc zMt) 30 := fun as h n Q hlen hP =>
  z_meth (T := zT_X2_init) zcal_30 (by decide +kernel) (Nat.le_trans (Nat.le_of_eq (zarg_sl as)) (Nat.le_of_ble_eq_true hlen)) (fun ad0 p e s m args below meth c F hr hl hn ht hK hE L hL q hq => zE_X2_init L hL q hq ⟨F, hr, hl, hn, ht, hK, hE, hst⟩) hP
theorem zCl_31 (hst : l.stackTraces = false) : zClAt (zMet l D vwCl dA RX5 zSt zNw zNc zMt) 31 := fun as h n Q hlen hP =>
  z_meth (T := zT_X2_of) zcal_31 (by decide +kernel) (Nat.le_trans (Nat.le_of_eq (zarg_sl as)) (Nat.le_of_ble_eq_true hlen)) (fun ad0 p e s m args below meth c F hr hl hn ht hK hE L hL q hq => zE_X2_of L hL q hq ⟨F, hr, hl, hn, ht, hK, hE, hst⟩) hP
theorem zCl_32 (hst : l.stackTraces = false) : zClAt (zMet l D vwCl dA RX5 zSt zNw zNc zMt) 32 := fun as h n Q hlen hP =>
  z_meth (T := zT_X2_edits) zcal_32 (by decide +kernel) (Nat.le_trans (Nat.le_of_eq (zarg_sl as)) (Nat.le_of_ble_eq_true hlen)) (fun ad0 p e s m args below meth c F hr hl hn ht hK hE L hL q hq => zE_X2_edits L hL q hq ⟨F, hr, hl, hn, ht, hK, hE, hst⟩) hP
theorem zCl_33 (hst : l.stackTraces = false) : zClAt (zMet l D vwCl dA RX5 zSt zNw zNc zMt) 33 := fun as h n Q hlen hP =>
  z_meth (T := zT_X2_moved) zcal_33 (by decide +kernel) (Nat.le_trans (Nat.le_of_eq (zarg_sl as)) (Nat.le_of_ble_eq_true hlen)) (fun ad0 p e s m args below meth c F hr hl hn ht hK hE L hL q hq => zE_X2_moved L hL q hq ⟨F, hr, hl, hn, ht, hK, hE, hst⟩) hP
theorem zCl_34 (hst : l.stackTraces = false) : zClAt (zMet l D vwCl dA RX5 zSt zNw zNc zMt) 34 := fun as h n Q hlen hP =>
  z_meth (T := zT_X2_removes) zcal_34 (by decide +kernel) (Nat.le_trans (Nat.le_of_eq (zarg_sl as)) (Nat.le_of_ble_eq_true hlen)) (fun ad0 p e s m args below meth c F hr hl hn ht hK hE L hL q hq => zE_X2_removes L hL q hq ⟨F, hr, hl, hn, ht, hK, hE, hst⟩) hP
theorem zCl_35 (hst : l.stackTraces = false) : zClAt (zMet l D vwCl dA RX5 zSt zNw zNc zMt) 35 := fun as h n Q hlen hP =>
  z_meth (T := zT_X2_countMoved) zcal_35 (by decide +kernel) (Nat.le_trans (Nat.le_of_eq (zarg_sl as)) (Nat.le_of_ble_eq_true hlen)) (fun ad0 p e s m args below meth c F hr hl hn ht hK hE L hL q hq => zE_X2_countMoved L hL q hq ⟨F, hr, hl, hn, ht, hK, hE, hst⟩) hP
theorem zCl_36 (hst : l.stackTraces = false) : zClAt (zMet l D vwCl dA RX5 zSt zNw zNc zMt) 36 := fun as h n Q hlen hP =>
  z_meth (T := zT_X2_compare) zcal_36 (by decide +kernel) (Nat.le_trans (Nat.le_of_eq (zarg_sl as)) (Nat.le_of_ble_eq_true hlen)) (fun ad0 p e s m args below meth c F hr hl hn ht hK hE L hL q hq => zE_X2_compare L hL q hq ⟨F, hr, hl, hn, ht, hK, hE, hst⟩) hP
theorem zCl_37 (hst : l.stackTraces = false) : zClAt (zMet l D vwCl dA RX5 zSt zNw zNc zMt) 37 := fun as h n Q hlen hP =>
  z_meth (T := zT_X2_changeUnlessKept) zcal_37 (by decide +kernel) (Nat.le_trans (Nat.le_of_eq (zarg_sl as)) (Nat.le_of_ble_eq_true hlen)) (fun ad0 p e s m args below meth c F hr hl hn ht hK hE L hL q hq => zE_X2_changeUnlessKept L hL q hq ⟨F, hr, hl, hn, ht, hK, hE, hst⟩) hP
theorem zCl_38 (hst : l.stackTraces = false) : zClAt (zMet l D vwCl dA RX5 zSt zNw zNc zMt) 38 := fun as h n Q hlen hP =>
  z_meth (T := zT_X2_measureAscending) zcal_38 (by decide +kernel) (Nat.le_trans (Nat.le_of_eq (zarg_sl as)) (Nat.le_of_ble_eq_true hlen)) (fun ad0 p e s m args below meth c F hr hl hn ht hK hE L hL q hq => zE_X2_measureAscending L hL q hq ⟨F, hr, hl, hn, ht, hK, hE, hst⟩) hP
theorem zCl_39 (hst : l.stackTraces = false) : zClAt (zMet l D vwCl dA RX5 zSt zNw zNc zMt) 39 := fun as h n Q hlen hP =>
  z_meth (T := zT_X2_lengthFrom) zcal_39 (by decide +kernel) (Nat.le_trans (Nat.le_of_eq (zarg_sl as)) (Nat.le_of_ble_eq_true hlen)) (fun ad0 p e s m args below meth c F hr hl hn ht hK hE L hL q hq => zE_X2_lengthFrom L hL q hq ⟨F, hr, hl, hn, ht, hK, hE, hst⟩) hP
theorem zCl_40 (hst : l.stackTraces = false) : zClAt (zMet l D vwCl dA RX5 zSt zNw zNc zMt) 40 := fun as h n Q hlen hP =>
  z_meth (T := zT_X2_markKept) zcal_40 (by decide +kernel) (Nat.le_trans (Nat.le_of_eq (zarg_sl as)) (Nat.le_of_ble_eq_true hlen)) (fun ad0 p e s m args below meth c F hr hl hn ht hK hE L hL q hq => zE_X2_markKept L hL q hq ⟨F, hr, hl, hn, ht, hK, hE, hst⟩) hP
theorem zCl_41 (hst : l.stackTraces = false) : zClAt (zMet l D vwCl dA RX5 zSt zNw zNc zMt) 41 := fun as h n Q hlen hP =>
  z_meth (T := zT_X2_leastStart) zcal_41 (by decide +kernel) (Nat.le_trans (Nat.le_of_eq (zarg_sl as)) (Nat.le_of_ble_eq_true hlen)) (fun ad0 p e s m args below meth c F hr hl hn ht hK hE L hL q hq => zE_X2_leastStart L hL q hq ⟨F, hr, hl, hn, ht, hK, hE, hst⟩) hP
theorem zCl_42 (hst : l.stackTraces = false) : zClAt (zMet l D vwCl dA RX5 zSt zNw zNc zMt) 42 := fun as h n Q hlen hP =>
  z_meth (T := zT_X3_init) zcal_42 (by decide +kernel) (Nat.le_trans (Nat.le_of_eq (zarg_sl as)) (Nat.le_of_ble_eq_true hlen)) (fun ad0 p e s m args below meth c F hr hl hn ht hK hE L hL q hq => zE_X3_init L hL q hq ⟨F, hr, hl, hn, ht, hK, hE, hst⟩) hP
theorem zCl_43 (hst : l.stackTraces = false) : zClAt (zMet l D vwCl dA RX5 zSt zNw zNc zMt) 43 := fun as h n Q hlen hP =>
  z_meth (T := zT_X3_keep) zcal_43 (by decide +kernel) (Nat.le_trans (Nat.le_of_eq (zarg_sl as)) (Nat.le_of_ble_eq_true hlen)) (fun ad0 p e s m args below meth c F hr hl hn ht hK hE L hL q hq => zE_X3_keep L hL q hq ⟨F, hr, hl, hn, ht, hK, hE, hst⟩) hP
theorem zCl_44 (hst : l.stackTraces = false) : zClAt (zMet l D vwCl dA RX5 zSt zNw zNc zMt) 44 := fun as h n Q hlen hP =>
  z_meth (T := zT_X3_restoreLast) zcal_44 (by decide +kernel) (Nat.le_trans (Nat.le_of_eq (zarg_sl as)) (Nat.le_of_ble_eq_true hlen)) (fun ad0 p e s m args below meth c F hr hl hn ht hK hE L hL q hq => zE_X3_restoreLast L hL q hq ⟨F, hr, hl, hn, ht, hK, hE, hst⟩) hP
theorem zCl_45 (hst : l.stackTraces = false) : zClAt (zMet l D vwCl dA RX5 zSt zNw zNc zMt) 45 := fun as h n Q hlen hP =>
  z_meth (T := zT_X3_slot) zcal_45 (by decide +kernel) (Nat.le_trans (Nat.le_of_eq (zarg_sl as)) (Nat.le_of_ble_eq_true hlen)) (fun ad0 p e s m args below meth c F hr hl hn ht hK hE L hL q hq => zE_X3_slot L hL q hq ⟨F, hr, hl, hn, ht, hK, hE, hst⟩) hP
theorem zCl_46 (hst : l.stackTraces = false) : zClAt (zMet l D vwCl dA RX5 zSt zNw zNc zMt) 46 := fun as h n Q hlen hP =>
  z_meth (T := zT_X3_copy) zcal_46 (by decide +kernel) (Nat.le_trans (Nat.le_of_eq (zarg_sl as)) (Nat.le_of_ble_eq_true hlen)) (fun ad0 p e s m args below meth c F hr hl hn ht hK hE L hL q hq => zE_X3_copy L hL q hq ⟨F, hr, hl, hn, ht, hK, hE, hst⟩) hP
theorem zCl_47 (hst : l.stackTraces = false) : zClAt (zMet l D vwCl dA RX5 zSt zNw zNc zMt) 47 := fun as h n Q hlen hP =>
  z_meth (T := zT_X4_init) zcal_47 (by decide +kernel) (Nat.le_trans (Nat.le_of_eq (zarg_sl as)) (Nat.le_of_ble_eq_true hlen)) (fun ad0 p e s m args below meth c F hr hl hn ht hK hE L hL q hq => zE_X4_init L hL q hq ⟨F, hr, hl, hn, ht, hK, hE, hst⟩) hP
theorem zCl_48 (hst : l.stackTraces = false) : zClAt (zMet l D vwCl dA RX5 zSt zNw zNc zMt) 48 := fun as h n Q hlen hP =>
  z_meth (T := zT_X4_changesOf) zcal_48 (by decide +kernel) (Nat.le_trans (Nat.le_of_eq (zarg_sl as)) (Nat.le_of_ble_eq_true hlen)) (fun ad0 p e s m args below meth c F hr hl hn ht hK hE L hL q hq => zE_X4_changesOf L hL q hq ⟨F, hr, hl, hn, ht, hK, hE, hst⟩) hP
theorem zCl_49 (hst : l.stackTraces = false) : zClAt (zMet l D vwCl dA RX5 zSt zNw zNc zMt) 49 := fun as h n Q hlen hP =>
  z_meth (T := zT_X4_hasConflict) zcal_49 (by decide +kernel) (Nat.le_trans (Nat.le_of_eq (zarg_sl as)) (Nat.le_of_ble_eq_true hlen)) (fun ad0 p e s m args below meth c F hr hl hn ht hK hE L hL q hq => zE_X4_hasConflict L hL q hq ⟨F, hr, hl, hn, ht, hK, hE, hst⟩) hP
theorem zCl_50 (hst : l.stackTraces = false) : zClAt (zMet l D vwCl dA RX5 zSt zNw zNc zMt) 50 := fun as h n Q hlen hP =>
  z_meth (T := zT_X4_blockOfConflict) zcal_50 (by decide +kernel) (Nat.le_trans (Nat.le_of_eq (zarg_sl as)) (Nat.le_of_ble_eq_true hlen)) (fun ad0 p e s m args below meth c F hr hl hn ht hK hE L hL q hq => zE_X4_blockOfConflict L hL q hq ⟨F, hr, hl, hn, ht, hK, hE, hst⟩) hP
theorem zCl_51 (hst : l.stackTraces = false) : zClAt (zMet l D vwCl dA RX5 zSt zNw zNc zMt) 51 := fun as h n Q hlen hP =>
  z_meth (T := zT_X4_kindOfConflict) zcal_51 (by decide +kernel) (Nat.le_trans (Nat.le_of_eq (zarg_sl as)) (Nat.le_of_ble_eq_true hlen)) (fun ad0 p e s m args below meth c F hr hl hn ht hK hE L hL q hq => zE_X4_kindOfConflict L hL q hq ⟨F, hr, hl, hn, ht, hK, hE, hst⟩) hP
theorem zCl_52 (hst : l.stackTraces = false) : zClAt (zMet l D vwCl dA RX5 zSt zNw zNc zMt) 52 := fun as h n Q hlen hP =>
  z_meth (T := zT_X4_countOpen) zcal_52 (by decide +kernel) (Nat.le_trans (Nat.le_of_eq (zarg_sl as)) (Nat.le_of_ble_eq_true hlen)) (fun ad0 p e s m args below meth c F hr hl hn ht hK hE L hL q hq => zE_X4_countOpen L hL q hq ⟨F, hr, hl, hn, ht, hK, hE, hst⟩) hP
theorem zCl_53 (hst : l.stackTraces = false) : zClAt (zMet l D vwCl dA RX5 zSt zNw zNc zMt) 53 := fun as h n Q hlen hP =>
  z_meth (T := zT_X4_make) zcal_53 (by decide +kernel) (Nat.le_trans (Nat.le_of_eq (zarg_sl as)) (Nat.le_of_ble_eq_true hlen)) (fun ad0 p e s m args below meth c F hr hl hn ht hK hE L hL q hq => zE_X4_make L hL q hq ⟨F, hr, hl, hn, ht, hK, hE, hst⟩) hP
theorem zCl_54 (hst : l.stackTraces = false) : zClAt (zMet l D vwCl dA RX5 zSt zNw zNc zMt) 54 := fun as h n Q hlen hP =>
  z_meth (T := zT_X4_decide) zcal_54 (by decide +kernel) (Nat.le_trans (Nat.le_of_eq (zarg_sl as)) (Nat.le_of_ble_eq_true hlen)) (fun ad0 p e s m args below meth c F hr hl hn ht hK hE L hL q hq => zE_X4_decide L hL q hq ⟨F, hr, hl, hn, ht, hK, hE, hst⟩) hP
theorem zCl_55 (hst : l.stackTraces = false) : zClAt (zMet l D vwCl dA RX5 zSt zNw zNc zMt) 55 := fun as h n Q hlen hP =>
  z_meth (T := zT_X4_decideRemoved) zcal_55 (by decide +kernel) (Nat.le_trans (Nat.le_of_eq (zarg_sl as)) (Nat.le_of_ble_eq_true hlen)) (fun ad0 p e s m args below meth c F hr hl hn ht hK hE L hL q hq => zE_X4_decideRemoved L hL q hq ⟨F, hr, hl, hn, ht, hK, hE, hst⟩) hP
theorem zCl_56 (hst : l.stackTraces = false) : zClAt (zMet l D vwCl dA RX5 zSt zNw zNc zMt) 56 := fun as h n Q hlen hP =>
  z_meth (T := zT_X4_contentFromBoth) zcal_56 (by decide +kernel) (Nat.le_trans (Nat.le_of_eq (zarg_sl as)) (Nat.le_of_ble_eq_true hlen)) (fun ad0 p e s m args below meth c F hr hl hn ht hK hE L hL q hq => zE_X4_contentFromBoth L hL q hq ⟨F, hr, hl, hn, ht, hK, hE, hst⟩) hP
theorem zCl_57 (hst : l.stackTraces = false) : zClAt (zMet l D vwCl dA RX5 zSt zNw zNc zMt) 57 := fun as h n Q hlen hP =>
  z_meth (T := zT_X4_placeFromBoth) zcal_57 (by decide +kernel) (Nat.le_trans (Nat.le_of_eq (zarg_sl as)) (Nat.le_of_ble_eq_true hlen)) (fun ad0 p e s m args below meth c F hr hl hn ht hK hE L hL q hq => zE_X4_placeFromBoth L hL q hq ⟨F, hr, hl, hn, ht, hK, hE, hst⟩) hP
theorem zCl_58 (hst : l.stackTraces = false) : zClAt (zMet l D vwCl dA RX5 zSt zNw zNc zMt) 58 := fun as h n Q hlen hP =>
  z_meth (T := zT_X4_numberBefore) zcal_58 (by decide +kernel) (Nat.le_trans (Nat.le_of_eq (zarg_sl as)) (Nat.le_of_ble_eq_true hlen)) (fun ad0 p e s m args below meth c F hr hl hn ht hK hE L hL q hq => zE_X4_numberBefore L hL q hq ⟨F, hr, hl, hn, ht, hK, hE, hst⟩) hP
theorem zCl_59 (hst : l.stackTraces = false) : zClAt (zMet l D vwCl dA RX5 zSt zNw zNc zMt) 59 := fun as h n Q hlen hP =>
  z_meth (T := zT_X4_addConflict) zcal_59 (by decide +kernel) (Nat.le_trans (Nat.le_of_eq (zarg_sl as)) (Nat.le_of_ble_eq_true hlen)) (fun ad0 p e s m args below meth c F hr hl hn ht hK hE L hL q hq => zE_X4_addConflict L hL q hq ⟨F, hr, hl, hn, ht, hK, hE, hst⟩) hP
theorem zCl_60 (hst : l.stackTraces = false) : zClAt (zMet l D vwCl dA RX5 zSt zNw zNc zMt) 60 := fun as h n Q hlen hP =>
  z_meth (T := zT_X4_putBlocksOf) zcal_60 (by decide +kernel) (Nat.le_trans (Nat.le_of_eq (zarg_sl as)) (Nat.le_of_ble_eq_true hlen)) (fun ad0 p e s m args below meth c F hr hl hn ht hK hE L hL q hq => zE_X4_putBlocksOf L hL q hq ⟨F, hr, hl, hn, ht, hK, hE, hst⟩) hP
theorem zCl_61 (hst : l.stackTraces = false) : zClAt (zMet l D vwCl dA RX5 zSt zNw zNc zMt) 61 := fun as h n Q hlen hP =>
  z_meth (T := zT_X4_placeBehind) zcal_61 (by decide +kernel) (Nat.le_trans (Nat.le_of_eq (zarg_sl as)) (Nat.le_of_ble_eq_true hlen)) (fun ad0 p e s m args below meth c F hr hl hn ht hK hE L hL q hq => zE_X4_placeBehind L hL q hq ⟨F, hr, hl, hn, ht, hK, hE, hst⟩) hP
theorem zCl_62 (hst : l.stackTraces = false) : zClAt (zMet l D vwCl dA RX5 zSt zNw zNc zMt) 62 := fun as h n Q hlen hP =>
  z_meth (T := zT_X5_init) zcal_62 (by decide +kernel) (Nat.le_trans (Nat.le_of_eq (zarg_sl as)) (Nat.le_of_ble_eq_true hlen)) (fun ad0 p e s m args below meth c F hr hl hn ht hK hE L hL q hq => zE_X5_init L hL q hq ⟨F, hr, hl, hn, ht, hK, hE, hst⟩) hP
theorem zCl_63 (hst : l.stackTraces = false) : zClAt (zMet l D vwCl dA RX5 zSt zNw zNc zMt) 63 := fun as h n Q hlen hP =>
  z_meth (T := zT_X5_draft) zcal_63 (by decide +kernel) (Nat.le_trans (Nat.le_of_eq (zarg_sl as)) (Nat.le_of_ble_eq_true hlen)) (fun ad0 p e s m args below meth c F hr hl hn ht hK hE L hL q hq => zE_X5_draft L hL q hq ⟨F, hr, hl, hn, ht, hK, hE, hst⟩) hP
theorem zCl_64 (hst : l.stackTraces = false) : zClAt (zMet l D vwCl dA RX5 zSt zNw zNc zMt) 64 := fun as h n Q hlen hP =>
  z_meth (T := zT_X5_baseCanGrow) zcal_64 (by decide +kernel) (Nat.le_trans (Nat.le_of_eq (zarg_sl as)) (Nat.le_of_ble_eq_true hlen)) (fun ad0 p e s m args below meth c F hr hl hn ht hK hE L hL q hq => zE_X5_baseCanGrow L hL q hq ⟨F, hr, hl, hn, ht, hK, hE, hst⟩) hP
theorem zCl_65 (hst : l.stackTraces = false) : zClAt (zMet l D vwCl dA RX5 zSt zNw zNc zMt) 65 := fun as h n Q hlen hP =>
  z_meth (T := zT_X5_growBase) zcal_65 (by decide +kernel) (Nat.le_trans (Nat.le_of_eq (zarg_sl as)) (Nat.le_of_ble_eq_true hlen)) (fun ad0 p e s m args below meth c F hr hl hn ht hK hE L hL q hq => zE_X5_growBase L hL q hq ⟨F, hr, hl, hn, ht, hK, hE, hst⟩) hP
theorem zCl_66 (hst : l.stackTraces = false) : zClAt (zMet l D vwCl dA RX5 zSt zNw zNc zMt) 66 := fun as h n Q hlen hP =>
  z_meth (T := zT_X5_putNewBlock) zcal_66 (by decide +kernel) (Nat.le_trans (Nat.le_of_eq (zarg_sl as)) (Nat.le_of_ble_eq_true hlen)) (fun ad0 p e s m args below meth c F hr hl hn ht hK hE L hL q hq => zE_X5_putNewBlock L hL q hq ⟨F, hr, hl, hn, ht, hK, hE, hst⟩) hP
theorem zCl_67 (hst : l.stackTraces = false) : zClAt (zMet l D vwCl dA RX5 zSt zNw zNc zMt) 67 := fun as h n Q hlen hP =>
  z_meth (T := zT_X5_takeNumber) zcal_67 (by decide +kernel) (Nat.le_trans (Nat.le_of_eq (zarg_sl as)) (Nat.le_of_ble_eq_true hlen)) (fun ad0 p e s m args below meth c F hr hl hn ht hK hE L hL q hq => zE_X5_takeNumber L hL q hq ⟨F, hr, hl, hn, ht, hK, hE, hst⟩) hP
theorem zCl_68 (hst : l.stackTraces = false) : zClAt (zMet l D vwCl dA RX5 zSt zNw zNc zMt) 68 := fun as h n Q hlen hP =>
  z_meth (T := zT_X5_choice) zcal_68 (by decide +kernel) (Nat.le_trans (Nat.le_of_eq (zarg_sl as)) (Nat.le_of_ble_eq_true hlen)) (fun ad0 p e s m args below meth c F hr hl hn ht hK hE L hL q hq => zE_X5_choice L hL q hq ⟨F, hr, hl, hn, ht, hK, hE, hst⟩) hP
theorem zCl_69 (hst : l.stackTraces = false) : zClAt (zMet l D vwCl dA RX5 zSt zNw zNc zMt) 69 := fun as h n Q hlen hP =>
  z_meth (T := zT_X5_choiceOrPreferred) zcal_69 (by decide +kernel) (Nat.le_trans (Nat.le_of_eq (zarg_sl as)) (Nat.le_of_ble_eq_true hlen)) (fun ad0 p e s m args below meth c F hr hl hn ht hK hE L hL q hq => zE_X5_choiceOrPreferred L hL q hq ⟨F, hr, hl, hn, ht, hK, hE, hst⟩) hP
theorem zCl_70 (hst : l.stackTraces = false) : zClAt (zMet l D vwCl dA RX5 zSt zNw zNc zMt) 70 := fun as h n Q hlen hP =>
  z_meth (T := zT_X5_setChoice) zcal_70 (by decide +kernel) (Nat.le_trans (Nat.le_of_eq (zarg_sl as)) (Nat.le_of_ble_eq_true hlen)) (fun ad0 p e s m args below meth c F hr hl hn ht hK hE L hL q hq => zE_X5_setChoice L hL q hq ⟨F, hr, hl, hn, ht, hK, hE, hst⟩) hP
theorem zCl_71 (hst : l.stackTraces = false) : zClAt (zMet l D vwCl dA RX5 zSt zNw zNc zMt) 71 := fun as h n Q hlen hP =>
  z_meth (T := zT_X5_choiceIndex) zcal_71 (by decide +kernel) (Nat.le_trans (Nat.le_of_eq (zarg_sl as)) (Nat.le_of_ble_eq_true hlen)) (fun ad0 p e s m args below meth c F hr hl hn ht hK hE L hL q hq => zE_X5_choiceIndex L hL q hq ⟨F, hr, hl, hn, ht, hK, hE, hst⟩) hP
theorem zCl_72 (hst : l.stackTraces = false) : zClAt (zMet l D vwCl dA RX5 zSt zNw zNc zMt) 72 := fun as h n Q hlen hP =>
  z_meth (T := zT_X5_takeAsBase) zcal_72 (by decide +kernel) (Nat.le_trans (Nat.le_of_eq (zarg_sl as)) (Nat.le_of_ble_eq_true hlen)) (fun ad0 p e s m args below meth c F hr hl hn ht hK hE L hL q hq => zE_X5_takeAsBase L hL q hq ⟨F, hr, hl, hn, ht, hK, hE, hst⟩) hP
theorem zCl_73 (hst : l.stackTraces = false) : zClAt (zMet l D vwCl dA RX5 zSt zNw zNc zMt) 73 := fun as h n Q hlen hP =>
  z_meth (T := zT_X5_copyFrom) zcal_73 (by decide +kernel) (Nat.le_trans (Nat.le_of_eq (zarg_sl as)) (Nat.le_of_ble_eq_true hlen)) (fun ad0 p e s m args below meth c F hr hl hn ht hK hE L hL q hq => zE_X5_copyFrom L hL q hq ⟨F, hr, hl, hn, ht, hK, hE, hst⟩) hP
theorem zCl_74 (hst : l.stackTraces = false) : zClAt (zMet l D vwCl dA RX5 zSt zNw zNc zMt) 74 := fun as h n Q hlen hP =>
  z_meth (T := zT_X6_init) zcal_74 (by decide +kernel) (Nat.le_trans (Nat.le_of_eq (zarg_sl as)) (Nat.le_of_ble_eq_true hlen)) (fun ad0 p e s m args below meth c F hr hl hn ht hK hE L hL q hq => zE_X6_init L hL q hq ⟨F, hr, hl, hn, ht, hK, hE, hst⟩) hP
theorem zCl_75 (hst : l.stackTraces = false) : zClAt (zMet l D vwCl dA RX5 zSt zNw zNc zMt) 75 := fun as h n Q hlen hP =>
  z_meth (T := zT_X6_addBase) zcal_75 (by decide +kernel) (Nat.le_trans (Nat.le_of_eq (zarg_sl as)) (Nat.le_of_ble_eq_true hlen)) (fun ad0 p e s m args below meth c F hr hl hn ht hK hE L hL q hq => zE_X6_addBase L hL q hq ⟨F, hr, hl, hn, ht, hK, hE, hst⟩) hP
theorem zCl_76 (hst : l.stackTraces = false) : zClAt (zMet l D vwCl dA RX5 zSt zNw zNc zMt) 76 := fun as h n Q hlen hP =>
  z_meth (T := zT_X6_edit) zcal_76 (by decide +kernel) (Nat.le_trans (Nat.le_of_eq (zarg_sl as)) (Nat.le_of_ble_eq_true hlen)) (fun ad0 p e s m args below meth c F hr hl hn ht hK hE L hL q hq => zE_X6_edit L hL q hq ⟨F, hr, hl, hn, ht, hK, hE, hst⟩) hP
theorem zCl_77 (hst : l.stackTraces = false) : zClAt (zMet l D vwCl dA RX5 zSt zNw zNc zMt) 77 := fun as h n Q hlen hP =>
  z_meth (T := zT_X6_move) zcal_77 (by decide +kernel) (Nat.le_trans (Nat.le_of_eq (zarg_sl as)) (Nat.le_of_ble_eq_true hlen)) (fun ad0 p e s m args below meth c F hr hl hn ht hK hE L hL q hq => zE_X6_move L hL q hq ⟨F, hr, hl, hn, ht, hK, hE, hst⟩) hP
theorem zCl_78 (hst : l.stackTraces = false) : zClAt (zMet l D vwCl dA RX5 zSt zNw zNc zMt) 78 := fun as h n Q hlen hP =>
  z_meth (T := zT_X6_insert) zcal_78 (by decide +kernel) (Nat.le_trans (Nat.le_of_eq (zarg_sl as)) (Nat.le_of_ble_eq_true hlen)) (fun ad0 p e s m args below meth c F hr hl hn ht hK hE L hL q hq => zE_X6_insert L hL q hq ⟨F, hr, hl, hn, ht, hK, hE, hst⟩) hP
theorem zCl_79 (hst : l.stackTraces = false) : zClAt (zMet l D vwCl dA RX5 zSt zNw zNc zMt) 79 := fun as h n Q hlen hP =>
  z_meth (T := zT_X6_remove) zcal_79 (by decide +kernel) (Nat.le_trans (Nat.le_of_eq (zarg_sl as)) (Nat.le_of_ble_eq_true hlen)) (fun ad0 p e s m args below meth c F hr hl hn ht hK hE L hL q hq => zE_X6_remove L hL q hq ⟨F, hr, hl, hn, ht, hK, hE, hst⟩) hP
theorem zCl_80 (hst : l.stackTraces = false) : zClAt (zMet l D vwCl dA RX5 zSt zNw zNc zMt) 80 := fun as h n Q hlen hP =>
  z_meth (T := zT_X6_baseSize) zcal_80 (by decide +kernel) (Nat.le_trans (Nat.le_of_eq (zarg_sl as)) (Nat.le_of_ble_eq_true hlen)) (fun ad0 p e s m args below meth c F hr hl hn ht hK hE L hL q hq => zE_X6_baseSize L hL q hq ⟨F, hr, hl, hn, ht, hK, hE, hst⟩) hP
theorem zCl_81 (hst : l.stackTraces = false) : zClAt (zMet l D vwCl dA RX5 zSt zNw zNc zMt) 81 := fun as h n Q hlen hP =>
  z_meth (T := zT_X6_size) zcal_81 (by decide +kernel) (Nat.le_trans (Nat.le_of_eq (zarg_sl as)) (Nat.le_of_ble_eq_true hlen)) (fun ad0 p e s m args below meth c F hr hl hn ht hK hE L hL q hq => zE_X6_size L hL q hq ⟨F, hr, hl, hn, ht, hK, hE, hst⟩) hP
theorem zCl_82 (hst : l.stackTraces = false) : zClAt (zMet l D vwCl dA RX5 zSt zNw zNc zMt) 82 := fun as h n Q hlen hP =>
  z_meth (T := zT_X6_block) zcal_82 (by decide +kernel) (Nat.le_trans (Nat.le_of_eq (zarg_sl as)) (Nat.le_of_ble_eq_true hlen)) (fun ad0 p e s m args below meth c F hr hl hn ht hK hE L hL q hq => zE_X6_block L hL q hq ⟨F, hr, hl, hn, ht, hK, hE, hst⟩) hP
theorem zCl_83 (hst : l.stackTraces = false) : zClAt (zMet l D vwCl dA RX5 zSt zNw zNc zMt) 83 := fun as h n Q hlen hP =>
  z_meth (T := zT_X6_content) zcal_83 (by decide +kernel) (Nat.le_trans (Nat.le_of_eq (zarg_sl as)) (Nat.le_of_ble_eq_true hlen)) (fun ad0 p e s m args below meth c F hr hl hn ht hK hE L hL q hq => zE_X6_content L hL q hq ⟨F, hr, hl, hn, ht, hK, hE, hst⟩) hP
theorem zCl_84 (hst : l.stackTraces = false) : zClAt (zMet l D vwCl dA RX5 zSt zNw zNc zMt) 84 := fun as h n Q hlen hP =>
  z_meth (T := zT_X6_change) zcal_84 (by decide +kernel) (Nat.le_trans (Nat.le_of_eq (zarg_sl as)) (Nat.le_of_ble_eq_true hlen)) (fun ad0 p e s m args below meth c F hr hl hn ht hK hE L hL q hq => zE_X6_change L hL q hq ⟨F, hr, hl, hn, ht, hK, hE, hst⟩) hP
theorem zCl_85 (hst : l.stackTraces = false) : zClAt (zMet l D vwCl dA RX5 zSt zNw zNc zMt) 85 := fun as h n Q hlen hP =>
  z_meth (T := zT_X6_moves) zcal_85 (by decide +kernel) (Nat.le_trans (Nat.le_of_eq (zarg_sl as)) (Nat.le_of_ble_eq_true hlen)) (fun ad0 p e s m args below meth c F hr hl hn ht hK hE L hL q hq => zE_X6_moves L hL q hq ⟨F, hr, hl, hn, ht, hK, hE, hst⟩) hP
theorem zCl_86 (hst : l.stackTraces = false) : zClAt (zMet l D vwCl dA RX5 zSt zNw zNc zMt) 86 := fun as h n Q hlen hP =>
  z_meth (T := zT_X6_mergedSize) zcal_86 (by decide +kernel) (Nat.le_trans (Nat.le_of_eq (zarg_sl as)) (Nat.le_of_ble_eq_true hlen)) (fun ad0 p e s m args below meth c F hr hl hn ht hK hE L hL q hq => zE_X6_mergedSize L hL q hq ⟨F, hr, hl, hn, ht, hK, hE, hst⟩) hP
theorem zCl_87 (hst : l.stackTraces = false) : zClAt (zMet l D vwCl dA RX5 zSt zNw zNc zMt) 87 := fun as h n Q hlen hP =>
  z_meth (T := zT_X6_mergedBlock) zcal_87 (by decide +kernel) (Nat.le_trans (Nat.le_of_eq (zarg_sl as)) (Nat.le_of_ble_eq_true hlen)) (fun ad0 p e s m args below meth c F hr hl hn ht hK hE L hL q hq => zE_X6_mergedBlock L hL q hq ⟨F, hr, hl, hn, ht, hK, hE, hst⟩) hP
theorem zCl_88 (hst : l.stackTraces = false) : zClAt (zMet l D vwCl dA RX5 zSt zNw zNc zMt) 88 := fun as h n Q hlen hP =>
  z_meth (T := zT_X6_mergedContent) zcal_88 (by decide +kernel) (Nat.le_trans (Nat.le_of_eq (zarg_sl as)) (Nat.le_of_ble_eq_true hlen)) (fun ad0 p e s m args below meth c F hr hl hn ht hK hE L hL q hq => zE_X6_mergedContent L hL q hq ⟨F, hr, hl, hn, ht, hK, hE, hst⟩) hP
theorem zCl_89 (hst : l.stackTraces = false) : zClAt (zMet l D vwCl dA RX5 zSt zNw zNc zMt) 89 := fun as h n Q hlen hP =>
  z_meth (T := zT_X6_conflicts) zcal_89 (by decide +kernel) (Nat.le_trans (Nat.le_of_eq (zarg_sl as)) (Nat.le_of_ble_eq_true hlen)) (fun ad0 p e s m args below meth c F hr hl hn ht hK hE L hL q hq => zE_X6_conflicts L hL q hq ⟨F, hr, hl, hn, ht, hK, hE, hst⟩) hP
theorem zCl_90 (hst : l.stackTraces = false) : zClAt (zMet l D vwCl dA RX5 zSt zNw zNc zMt) 90 := fun as h n Q hlen hP =>
  z_meth (T := zT_X6_conflictBlock) zcal_90 (by decide +kernel) (Nat.le_trans (Nat.le_of_eq (zarg_sl as)) (Nat.le_of_ble_eq_true hlen)) (fun ad0 p e s m args below meth c F hr hl hn ht hK hE L hL q hq => zE_X6_conflictBlock L hL q hq ⟨F, hr, hl, hn, ht, hK, hE, hst⟩) hP
theorem zCl_91 (hst : l.stackTraces = false) : zClAt (zMet l D vwCl dA RX5 zSt zNw zNc zMt) 91 := fun as h n Q hlen hP =>
  z_meth (T := zT_X6_conflictKind) zcal_91 (by decide +kernel) (Nat.le_trans (Nat.le_of_eq (zarg_sl as)) (Nat.le_of_ble_eq_true hlen)) (fun ad0 p e s m args below meth c F hr hl hn ht hK hE L hL q hq => zE_X6_conflictKind L hL q hq ⟨F, hr, hl, hn, ht, hK, hE, hst⟩) hP
theorem zCl_92 (hst : l.stackTraces = false) : zClAt (zMet l D vwCl dA RX5 zSt zNw zNc zMt) 92 := fun as h n Q hlen hP =>
  z_meth (T := zT_X6_choose) zcal_92 (by decide +kernel) (Nat.le_trans (Nat.le_of_eq (zarg_sl as)) (Nat.le_of_ble_eq_true hlen)) (fun ad0 p e s m args below meth c F hr hl hn ht hK hE L hL q hq => zE_X6_choose L hL q hq ⟨F, hr, hl, hn, ht, hK, hE, hst⟩) hP
theorem zCl_93 (hst : l.stackTraces = false) : zClAt (zMet l D vwCl dA RX5 zSt zNw zNc zMt) 93 := fun as h n Q hlen hP =>
  z_meth (T := zT_X6_prefer) zcal_93 (by decide +kernel) (Nat.le_trans (Nat.le_of_eq (zarg_sl as)) (Nat.le_of_ble_eq_true hlen)) (fun ad0 p e s m args below meth c F hr hl hn ht hK hE L hL q hq => zE_X6_prefer L hL q hq ⟨F, hr, hl, hn, ht, hK, hE, hst⟩) hP
theorem zCl_94 (hst : l.stackTraces = false) : zClAt (zMet l D vwCl dA RX5 zSt zNw zNc zMt) 94 := fun as h n Q hlen hP =>
  z_meth (T := zT_X6_open) zcal_94 (by decide +kernel) (Nat.le_trans (Nat.le_of_eq (zarg_sl as)) (Nat.le_of_ble_eq_true hlen)) (fun ad0 p e s m args below meth c F hr hl hn ht hK hE L hL q hq => zE_X6_open L hL q hq ⟨F, hr, hl, hn, ht, hK, hE, hst⟩) hP
theorem zCl_95 (hst : l.stackTraces = false) : zClAt (zMet l D vwCl dA RX5 zSt zNw zNc zMt) 95 := fun as h n Q hlen hP =>
  z_meth (T := zT_X6_accept) zcal_95 (by decide +kernel) (Nat.le_trans (Nat.le_of_eq (zarg_sl as)) (Nat.le_of_ble_eq_true hlen)) (fun ad0 p e s m args below meth c F hr hl hn ht hK hE L hL q hq => zE_X6_accept L hL q hq ⟨F, hr, hl, hn, ht, hK, hE, hst⟩) hP
theorem zCl_96 (hst : l.stackTraces = false) : zClAt (zMet l D vwCl dA RX5 zSt zNw zNc zMt) 96 := fun as h n Q hlen hP =>
  z_meth (T := zT_X6_accepted) zcal_96 (by decide +kernel) (Nat.le_trans (Nat.le_of_eq (zarg_sl as)) (Nat.le_of_ble_eq_true hlen)) (fun ad0 p e s m args below meth c F hr hl hn ht hK hE L hL q hq => zE_X6_accepted L hL q hq ⟨F, hr, hl, hn, ht, hK, hE, hst⟩) hP
theorem zCl_97 (hst : l.stackTraces = false) : zClAt (zMet l D vwCl dA RX5 zSt zNw zNc zMt) 97 := fun as h n Q hlen hP =>
  z_meth (T := zT_X6_similarity) zcal_97 (by decide +kernel) (Nat.le_trans (Nat.le_of_eq (zarg_sl as)) (Nat.le_of_ble_eq_true hlen)) (fun ad0 p e s m args below meth c F hr hl hn ht hK hE L hL q hq => zE_X6_similarity L hL q hq ⟨F, hr, hl, hn, ht, hK, hE, hst⟩) hP
theorem zCl_98 (hst : l.stackTraces = false) : zClAt (zMet l D vwCl dA RX5 zSt zNw zNc zMt) 98 := fun as h n Q hlen hP =>
  z_meth (T := zT_X6_append) zcal_98 (by decide +kernel) (Nat.le_trans (Nat.le_of_eq (zarg_sl as)) (Nat.le_of_ble_eq_true hlen)) (fun ad0 p e s m args below meth c F hr hl hn ht hK hE L hL q hq => zE_X6_append L hL q hq ⟨F, hr, hl, hn, ht, hK, hE, hst⟩) hP
theorem zCl_99 (hst : l.stackTraces = false) : zClAt (zMet l D vwCl dA RX5 zSt zNw zNc zMt) 99 := fun as h n Q hlen hP =>
  z_meth (T := zT_X6_clearText) zcal_99 (by decide +kernel) (Nat.le_trans (Nat.le_of_eq (zarg_sl as)) (Nat.le_of_ble_eq_true hlen)) (fun ad0 p e s m args below meth c F hr hl hn ht hK hE L hL q hq => zE_X6_clearText L hL q hq ⟨F, hr, hl, hn, ht, hK, hE, hst⟩) hP
theorem zCl_100 (hst : l.stackTraces = false) : zClAt (zMet l D vwCl dA RX5 zSt zNw zNc zMt) 100 := fun as h n Q hlen hP =>
  z_meth (T := zT_X6_firstError) zcal_100 (by decide +kernel) (Nat.le_trans (Nat.le_of_eq (zarg_sl as)) (Nat.le_of_ble_eq_true hlen)) (fun ad0 p e s m args below meth c F hr hl hn ht hK hE L hL q hq => zE_X6_firstError L hL q hq ⟨F, hr, hl, hn, ht, hK, hE, hst⟩) hP
theorem zCl_101 (hst : l.stackTraces = false) : zClAt (zMet l D vwCl dA RX5 zSt zNw zNc zMt) 101 := fun as h n Q hlen hP =>
  z_meth (T := zT_X6_run) zcal_101 (by decide +kernel) (Nat.le_trans (Nat.le_of_eq (zarg_sl as)) (Nat.le_of_ble_eq_true hlen)) (fun ad0 p e s m args below meth c F hr hl hn ht hK hE L hL q hq => zE_X6_run L hL q hq ⟨F, hr, hl, hn, ht, hK, hE, hst⟩) hP
theorem zCl_102 (hst : l.stackTraces = false) : zClAt (zMet l D vwCl dA RX5 zSt zNw zNc zMt) 102 := fun as h n Q hlen hP =>
  z_meth (T := zT_X6_undo) zcal_102 (by decide +kernel) (Nat.le_trans (Nat.le_of_eq (zarg_sl as)) (Nat.le_of_ble_eq_true hlen)) (fun ad0 p e s m args below meth c F hr hl hn ht hK hE L hL q hq => zE_X6_undo L hL q hq ⟨F, hr, hl, hn, ht, hK, hE, hst⟩) hP
theorem zCl_103 (hst : l.stackTraces = false) : zClAt (zMet l D vwCl dA RX5 zSt zNw zNc zMt) 103 := fun as h n Q hlen hP =>
  z_meth (T := zT_X6_savedStates) zcal_103 (by decide +kernel) (Nat.le_trans (Nat.le_of_eq (zarg_sl as)) (Nat.le_of_ble_eq_true hlen)) (fun ad0 p e s m args below meth c F hr hl hn ht hK hE L hL q hq => zE_X6_savedStates L hL q hq ⟨F, hr, hl, hn, ht, hK, hE, hst⟩) hP
theorem zCl_104 (hst : l.stackTraces = false) : zClAt (zMet l D vwCl dA RX5 zSt zNw zNc zMt) 104 := fun as h n Q hlen hP =>
  z_meth (T := zT_X6_digest) zcal_104 (by decide +kernel) (Nat.le_trans (Nat.le_of_eq (zarg_sl as)) (Nat.le_of_ble_eq_true hlen)) (fun ad0 p e s m args below meth c F hr hl hn ht hK hE L hL q hq => zE_X6_digest L hL q hq ⟨F, hr, hl, hn, ht, hK, hE, hst⟩) hP
theorem zCl_105 (hst : l.stackTraces = false) : zClAt (zMet l D vwCl dA RX5 zSt zNw zNc zMt) 105 := fun as h n Q hlen hP =>
  z_meth (T := zT_X6_mixedWithBlocks) zcal_105 (by decide +kernel) (Nat.le_trans (Nat.le_of_eq (zarg_sl as)) (Nat.le_of_ble_eq_true hlen)) (fun ad0 p e s m args below meth c F hr hl hn ht hK hE L hL q hq => zE_X6_mixedWithBlocks L hL q hq ⟨F, hr, hl, hn, ht, hK, hE, hst⟩) hP
theorem zCl_106 (hst : l.stackTraces = false) : zClAt (zMet l D vwCl dA RX5 zSt zNw zNc zMt) 106 := fun as h n Q hlen hP =>
  z_meth (T := zT_X6_mixed) zcal_106 (by decide +kernel) (Nat.le_trans (Nat.le_of_eq (zarg_sl as)) (Nat.le_of_ble_eq_true hlen)) (fun ad0 p e s m args below meth c F hr hl hn ht hK hE L hL q hq => zE_X6_mixed L hL q hq ⟨F, hr, hl, hn, ht, hK, hE, hst⟩) hP
theorem zCl_107 (hst : l.stackTraces = false) : zClAt (zMet l D vwCl dA RX5 zSt zNw zNc zMt) 107 := fun as h n Q hlen hP =>
  z_meth (T := zT_X6_isDraft) zcal_107 (by decide +kernel) (Nat.le_trans (Nat.le_of_eq (zarg_sl as)) (Nat.le_of_ble_eq_true hlen)) (fun ad0 p e s m args below meth c F hr hl hn ht hK hE L hL q hq => zE_X6_isDraft L hL q hq ⟨F, hr, hl, hn, ht, hK, hE, hst⟩) hP
theorem zCl_108 (hst : l.stackTraces = false) : zClAt (zMet l D vwCl dA RX5 zSt zNw zNc zMt) 108 := fun as h n Q hlen hP =>
  z_meth (T := zT_X6_isContent) zcal_108 (by decide +kernel) (Nat.le_trans (Nat.le_of_eq (zarg_sl as)) (Nat.le_of_ble_eq_true hlen)) (fun ad0 p e s m args below meth c F hr hl hn ht hK hE L hL q hq => zE_X6_isContent L hL q hq ⟨F, hr, hl, hn, ht, hK, hE, hst⟩) hP
theorem zCl_109 (hst : l.stackTraces = false) : zClAt (zMet l D vwCl dA RX5 zSt zNw zNc zMt) 109 := fun as h n Q hlen hP =>
  z_meth (T := zT_X6_hasPosition) zcal_109 (by decide +kernel) (Nat.le_trans (Nat.le_of_eq (zarg_sl as)) (Nat.le_of_ble_eq_true hlen)) (fun ad0 p e s m args below meth c F hr hl hn ht hK hE L hL q hq => zE_X6_hasPosition L hL q hq ⟨F, hr, hl, hn, ht, hK, hE, hst⟩) hP
theorem zCl_110 (hst : l.stackTraces = false) : zClAt (zMet l D vwCl dA RX5 zSt zNw zNc zMt) 110 := fun as h n Q hlen hP =>
  z_meth (T := zT_X6_editFault) zcal_110 (by decide +kernel) (Nat.le_trans (Nat.le_of_eq (zarg_sl as)) (Nat.le_of_ble_eq_true hlen)) (fun ad0 p e s m args below meth c F hr hl hn ht hK hE L hL q hq => zE_X6_editFault L hL q hq ⟨F, hr, hl, hn, ht, hK, hE, hst⟩) hP
theorem zCl_111 (hst : l.stackTraces = false) : zClAt (zMet l D vwCl dA RX5 zSt zNw zNc zMt) 111 := fun as h n Q hlen hP =>
  z_meth (T := zT_X6_moveFault) zcal_111 (by decide +kernel) (Nat.le_trans (Nat.le_of_eq (zarg_sl as)) (Nat.le_of_ble_eq_true hlen)) (fun ad0 p e s m args below meth c F hr hl hn ht hK hE L hL q hq => zE_X6_moveFault L hL q hq ⟨F, hr, hl, hn, ht, hK, hE, hst⟩) hP
theorem zCl_112 (hst : l.stackTraces = false) : zClAt (zMet l D vwCl dA RX5 zSt zNw zNc zMt) 112 := fun as h n Q hlen hP =>
  z_meth (T := zT_X6_insertFault) zcal_112 (by decide +kernel) (Nat.le_trans (Nat.le_of_eq (zarg_sl as)) (Nat.le_of_ble_eq_true hlen)) (fun ad0 p e s m args below meth c F hr hl hn ht hK hE L hL q hq => zE_X6_insertFault L hL q hq ⟨F, hr, hl, hn, ht, hK, hE, hst⟩) hP
theorem zCl_113 (hst : l.stackTraces = false) : zClAt (zMet l D vwCl dA RX5 zSt zNw zNc zMt) 113 := fun as h n Q hlen hP =>
  z_meth (T := zT_X6_removeFault) zcal_113 (by decide +kernel) (Nat.le_trans (Nat.le_of_eq (zarg_sl as)) (Nat.le_of_ble_eq_true hlen)) (fun ad0 p e s m args below meth c F hr hl hn ht hK hE L hL q hq => zE_X6_removeFault L hL q hq ⟨F, hr, hl, hn, ht, hK, hE, hst⟩) hP
theorem zCl_114 (hst : l.stackTraces = false) : zClAt (zMet l D vwCl dA RX5 zSt zNw zNc zMt) 114 := fun as h n Q hlen hP =>
  z_meth (T := zT_X6_executeText) zcal_114 (by decide +kernel) (Nat.le_trans (Nat.le_of_eq (zarg_sl as)) (Nat.le_of_ble_eq_true hlen)) (fun ad0 p e s m args below meth c F hr hl hn ht hK hE L hL q hq => zE_X6_executeText L hL q hq ⟨F, hr, hl, hn, ht, hK, hE, hst⟩) hP
theorem zCl_115 (hst : l.stackTraces = false) : zClAt (zMet l D vwCl dA RX5 zSt zNw zNc zMt) 115 := fun as h n Q hlen hP =>
  z_meth (T := zT_X6_executeCommand) zcal_115 (by decide +kernel) (Nat.le_trans (Nat.le_of_eq (zarg_sl as)) (Nat.le_of_ble_eq_true hlen)) (fun ad0 p e s m args below meth c F hr hl hn ht hK hE L hL q hq => zE_X6_executeCommand L hL q hq ⟨F, hr, hl, hn, ht, hK, hE, hst⟩) hP
theorem zCl_116 (hst : l.stackTraces = false) : zClAt (zMet l D vwCl dA RX5 zSt zNw zNc zMt) 116 := fun as h n Q hlen hP =>
  z_meth (T := zT_X6_cell) zcal_116 (by decide +kernel) (Nat.le_trans (Nat.le_of_eq (zarg_sl as)) (Nat.le_of_ble_eq_true hlen)) (fun ad0 p e s m args below meth c F hr hl hn ht hK hE L hL q hq => zE_X6_cell L hL q hq ⟨F, hr, hl, hn, ht, hK, hE, hst⟩) hP
theorem zCl_117 (hst : l.stackTraces = false) : zClAt (zMet l D vwCl dA RX5 zSt zNw zNc zMt) 117 := fun as h n Q hlen hP =>
  z_meth (T := zT_X6_setCell) zcal_117 (by decide +kernel) (Nat.le_trans (Nat.le_of_eq (zarg_sl as)) (Nat.le_of_ble_eq_true hlen)) (fun ad0 p e s m args below meth c F hr hl hn ht hK hE L hL q hq => zE_X6_setCell L hL q hq ⟨F, hr, hl, hn, ht, hK, hE, hst⟩) hP
theorem zCl_118 (hst : l.stackTraces = false) : zClAt (zMet l D vwCl dA RX5 zSt zNw zNc zMt) 118 := fun as h n Q hlen hP =>
  z_meth (T := zT_X7_init) zcal_118 (by decide +kernel) (Nat.le_trans (Nat.le_of_eq (zarg_sl as)) (Nat.le_of_ble_eq_true hlen)) (fun ad0 p e s m args below meth c F hr hl hn ht hK hE L hL q hq => zE_X7_init L hL q hq ⟨F, hr, hl, hn, ht, hK, hE, hst⟩) hP
theorem zCl_119 (hst : l.stackTraces = false) : zClAt (zMet l D vwCl dA RX5 zSt zNw zNc zMt) 119 := fun as h n Q hlen hP =>
  z_meth (T := zT_X7_thrown) zcal_119 (by decide +kernel) (Nat.le_trans (Nat.le_of_eq (zarg_sl as)) (Nat.le_of_ble_eq_true hlen)) (fun ad0 p e s m args below meth c F hr hl hn ht hK hE L hL q hq => zE_X7_thrown L hL q hq ⟨F, hr, hl, hn, ht, hK, hE, hst⟩) hP
theorem zCl_120 (hst : l.stackTraces = false) : zClAt (zMet l D vwCl dA RX5 zSt zNw zNc zMt) 120 := fun as h n Q hlen hP =>
  z_meth (T := zT_X7_refused) zcal_120 (by decide +kernel) (Nat.le_trans (Nat.le_of_eq (zarg_sl as)) (Nat.le_of_ble_eq_true hlen)) (fun ad0 p e s m args below meth c F hr hl hn ht hK hE L hL q hq => zE_X7_refused L hL q hq ⟨F, hr, hl, hn, ht, hK, hE, hst⟩) hP
theorem zCl_121 (hst : l.stackTraces = false) : zClAt (zMet l D vwCl dA RX5 zSt zNw zNc zMt) 121 := fun as h n Q hlen hP =>
  z_meth (T := zT_X7_in) zcal_121 (by decide +kernel) (Nat.le_trans (Nat.le_of_eq (zarg_sl as)) (Nat.le_of_ble_eq_true hlen)) (fun ad0 p e s m args below meth c F hr hl hn ht hK hE L hL q hq => zE_X7_in L hL q hq ⟨F, hr, hl, hn, ht, hK, hE, hst⟩) hP
theorem zCl_122 (hst : l.stackTraces = false) : zClAt (zMet l D vwCl dA RX5 zSt zNw zNc zMt) 122 := fun as h n Q hlen hP =>
  z_meth (T := zT_X7_saves) zcal_122 (by decide +kernel) (Nat.le_trans (Nat.le_of_eq (zarg_sl as)) (Nat.le_of_ble_eq_true hlen)) (fun ad0 p e s m args below meth c F hr hl hn ht hK hE L hL q hq => zE_X7_saves L hL q hq ⟨F, hr, hl, hn, ht, hK, hE, hst⟩) hP
theorem zCl_123 (hst : l.stackTraces = false) : zClAt (zMet l D vwCl dA RX5 zSt zNw zNc zMt) 123 := fun as h n Q hlen hP =>
  z_meth (T := zT_X7_isDraft) zcal_123 (by decide +kernel) (Nat.le_trans (Nat.le_of_eq (zarg_sl as)) (Nat.le_of_ble_eq_true hlen)) (fun ad0 p e s m args below meth c F hr hl hn ht hK hE L hL q hq => zE_X7_isDraft L hL q hq ⟨F, hr, hl, hn, ht, hK, hE, hst⟩) hP
theorem zCl_124 (hst : l.stackTraces = false) : zClAt (zMet l D vwCl dA RX5 zSt zNw zNc zMt) 124 := fun as h n Q hlen hP =>
  z_meth (T := zT_X7_at) zcal_124 (by decide +kernel) (Nat.le_trans (Nat.le_of_eq (zarg_sl as)) (Nat.le_of_ble_eq_true hlen)) (fun ad0 p e s m args below meth c F hr hl hn ht hK hE L hL q hq => zE_X7_at L hL q hq ⟨F, hr, hl, hn, ht, hK, hE, hst⟩) hP
theorem zCl_125 (hst : l.stackTraces = false) : zClAt (zMet l D vwCl dA RX5 zSt zNw zNc zMt) 125 := fun as h n Q hlen hP =>
  z_meth (T := zT_X7_sizeOf) zcal_125 (by decide +kernel) (Nat.le_trans (Nat.le_of_eq (zarg_sl as)) (Nat.le_of_ble_eq_true hlen)) (fun ad0 p e s m args below meth c F hr hl hn ht hK hE L hL q hq => zE_X7_sizeOf L hL q hq ⟨F, hr, hl, hn, ht, hK, hE, hst⟩) hP
theorem zCl_126 (hst : l.stackTraces = false) : zClAt (zMet l D vwCl dA RX5 zSt zNw zNc zMt) 126 := fun as h n Q hlen hP =>
  z_meth (T := zT_X7_numberAt) zcal_126 (by decide +kernel) (Nat.le_trans (Nat.le_of_eq (zarg_sl as)) (Nat.le_of_ble_eq_true hlen)) (fun ad0 p e s m args below meth c F hr hl hn ht hK hE L hL q hq => zE_X7_numberAt L hL q hq ⟨F, hr, hl, hn, ht, hK, hE, hst⟩) hP
theorem zCl_127 (hst : l.stackTraces = false) : zClAt (zMet l D vwCl dA RX5 zSt zNw zNc zMt) 127 := fun as h n Q hlen hP =>
  z_meth (T := zT_X7_insideAt) zcal_127 (by decide +kernel) (Nat.le_trans (Nat.le_of_eq (zarg_sl as)) (Nat.le_of_ble_eq_true hlen)) (fun ad0 p e s m args below meth c F hr hl hn ht hK hE L hL q hq => zE_X7_insideAt L hL q hq ⟨F, hr, hl, hn, ht, hK, hE, hst⟩) hP
theorem zCl_128 (hst : l.stackTraces = false) : zClAt (zMet l D vwCl dA RX5 zSt zNw zNc zMt) 128 := fun as h n Q hlen hP =>
  z_meth (T := zT_X7_isThere) zcal_128 (by decide +kernel) (Nat.le_trans (Nat.le_of_eq (zarg_sl as)) (Nat.le_of_ble_eq_true hlen)) (fun ad0 p e s m args below meth c F hr hl hn ht hK hE L hL q hq => zE_X7_isThere L hL q hq ⟨F, hr, hl, hn, ht, hK, hE, hst⟩) hP
theorem zCl_129 (hst : l.stackTraces = false) : zClAt (zMet l D vwCl dA RX5 zSt zNw zNc zMt) 129 := fun as h n Q hlen hP =>
  z_meth (T := zT_X7_placeOf) zcal_129 (by decide +kernel) (Nat.le_trans (Nat.le_of_eq (zarg_sl as)) (Nat.le_of_ble_eq_true hlen)) (fun ad0 p e s m args below meth c F hr hl hn ht hK hE L hL q hq => zE_X7_placeOf L hL q hq ⟨F, hr, hl, hn, ht, hK, hE, hst⟩) hP
theorem zCl_130 (hst : l.stackTraces = false) : zClAt (zMet l D vwCl dA RX5 zSt zNw zNc zMt) 130 := fun as h n Q hlen hP =>
  z_meth (T := zT_X7_has) zcal_130 (by decide +kernel) (Nat.le_trans (Nat.le_of_eq (zarg_sl as)) (Nat.le_of_ble_eq_true hlen)) (fun ad0 p e s m args below meth c F hr hl hn ht hK hE L hL q hq => zE_X7_has L hL q hq ⟨F, hr, hl, hn, ht, hK, hE, hst⟩) hP
theorem zCl_131 (hst : l.stackTraces = false) : zClAt (zMet l D vwCl dA RX5 zSt zNw zNc zMt) 131 := fun as h n Q hlen hP =>
  z_meth (T := zT_X7_contentIn) zcal_131 (by decide +kernel) (Nat.le_trans (Nat.le_of_eq (zarg_sl as)) (Nat.le_of_ble_eq_true hlen)) (fun ad0 p e s m args below meth c F hr hl hn ht hK hE L hL q hq => zE_X7_contentIn L hL q hq ⟨F, hr, hl, hn, ht, hK, hE, hst⟩) hP
theorem zCl_132 (hst : l.stackTraces = false) : zClAt (zMet l D vwCl dA RX5 zSt zNw zNc zMt) 132 := fun as h n Q hlen hP =>
  z_meth (T := zT_X7_doesEdit) zcal_132 (by decide +kernel) (Nat.le_trans (Nat.le_of_eq (zarg_sl as)) (Nat.le_of_ble_eq_true hlen)) (fun ad0 p e s m args below meth c F hr hl hn ht hK hE L hL q hq => zE_X7_doesEdit L hL q hq ⟨F, hr, hl, hn, ht, hK, hE, hst⟩) hP
theorem zCl_133 (hst : l.stackTraces = false) : zClAt (zMet l D vwCl dA RX5 zSt zNw zNc zMt) 133 := fun as h n Q hlen hP =>
  z_meth (T := zT_X7_puts) zcal_133 (by decide +kernel) (Nat.le_trans (Nat.le_of_eq (zarg_sl as)) (Nat.le_of_ble_eq_true hlen)) (fun ad0 p e s m args below meth c F hr hl hn ht hK hE L hL q hq => zE_X7_puts L hL q hq ⟨F, hr, hl, hn, ht, hK, hE, hst⟩) hP
theorem zCl_134 (hst : l.stackTraces = false) : zClAt (zMet l D vwCl dA RX5 zSt zNw zNc zMt) 134 := fun as h n Q hlen hP =>
  z_meth (T := zT_X7_takes) zcal_134 (by decide +kernel) (Nat.le_trans (Nat.le_of_eq (zarg_sl as)) (Nat.le_of_ble_eq_true hlen)) (fun ad0 p e s m args below meth c F hr hl hn ht hK hE L hL q hq => zE_X7_takes L hL q hq ⟨F, hr, hl, hn, ht, hK, hE, hst⟩) hP
theorem zCl_135 (hst : l.stackTraces = false) : zClAt (zMet l D vwCl dA RX5 zSt zNw zNc zMt) 135 := fun as h n Q hlen hP =>
  z_meth (T := zT_X7_isChanged) zcal_135 (by decide +kernel) (Nat.le_trans (Nat.le_of_eq (zarg_sl as)) (Nat.le_of_ble_eq_true hlen)) (fun ad0 p e s m args below meth c F hr hl hn ht hK hE L hL q hq => zE_X7_isChanged L hL q hq ⟨F, hr, hl, hn, ht, hK, hE, hst⟩) hP
theorem zCl_136 (hst : l.stackTraces = false) : zClAt (zMet l D vwCl dA RX5 zSt zNw zNc zMt) 136 := fun as h n Q hlen hP =>
  z_meth (T := zT_X7_addBase) zcal_136 (by decide +kernel) (Nat.le_trans (Nat.le_of_eq (zarg_sl as)) (Nat.le_of_ble_eq_true hlen)) (fun ad0 p e s m args below meth c F hr hl hn ht hK hE L hL q hq => zE_X7_addBase L hL q hq ⟨F, hr, hl, hn, ht, hK, hE, hst⟩) hP
theorem zCl_137 (hst : l.stackTraces = false) : zClAt (zMet l D vwCl dA RX5 zSt zNw zNc zMt) 137 := fun as h n Q hlen hP =>
  z_meth (T := zT_X7_barEdit) zcal_137 (by decide +kernel) (Nat.le_trans (Nat.le_of_eq (zarg_sl as)) (Nat.le_of_ble_eq_true hlen)) (fun ad0 p e s m args below meth c F hr hl hn ht hK hE L hL q hq => zE_X7_barEdit L hL q hq ⟨F, hr, hl, hn, ht, hK, hE, hst⟩) hP
theorem zCl_138 (hst : l.stackTraces = false) : zClAt (zMet l D vwCl dA RX5 zSt zNw zNc zMt) 138 := fun as h n Q hlen hP =>
  z_meth (T := zT_X7_barMove) zcal_138 (by decide +kernel) (Nat.le_trans (Nat.le_of_eq (zarg_sl as)) (Nat.le_of_ble_eq_true hlen)) (fun ad0 p e s m args below meth c F hr hl hn ht hK hE L hL q hq => zE_X7_barMove L hL q hq ⟨F, hr, hl, hn, ht, hK, hE, hst⟩) hP
theorem zCl_139 (hst : l.stackTraces = false) : zClAt (zMet l D vwCl dA RX5 zSt zNw zNc zMt) 139 := fun as h n Q hlen hP =>
  z_meth (T := zT_X7_barInsert) zcal_139 (by decide +kernel) (Nat.le_trans (Nat.le_of_eq (zarg_sl as)) (Nat.le_of_ble_eq_true hlen)) (fun ad0 p e s m args below meth c F hr hl hn ht hK hE L hL q hq => zE_X7_barInsert L hL q hq ⟨F, hr, hl, hn, ht, hK, hE, hst⟩) hP
theorem zCl_140 (hst : l.stackTraces = false) : zClAt (zMet l D vwCl dA RX5 zSt zNw zNc zMt) 140 := fun as h n Q hlen hP =>
  z_meth (T := zT_X7_barRemove) zcal_140 (by decide +kernel) (Nat.le_trans (Nat.le_of_eq (zarg_sl as)) (Nat.le_of_ble_eq_true hlen)) (fun ad0 p e s m args below meth c F hr hl hn ht hK hE L hL q hq => zE_X7_barRemove L hL q hq ⟨F, hr, hl, hn, ht, hK, hE, hst⟩) hP
theorem zCl_141 (hst : l.stackTraces = false) : zClAt (zMet l D vwCl dA RX5 zSt zNw zNc zMt) 141 := fun as h n Q hlen hP =>
  z_meth (T := zT_X7_edits) zcal_141 (by decide +kernel) (Nat.le_trans (Nat.le_of_eq (zarg_sl as)) (Nat.le_of_ble_eq_true hlen)) (fun ad0 p e s m args below meth c F hr hl hn ht hK hE L hL q hq => zE_X7_edits L hL q hq ⟨F, hr, hl, hn, ht, hK, hE, hst⟩) hP
theorem zCl_142 (hst : l.stackTraces = false) : zClAt (zMet l D vwCl dA RX5 zSt zNw zNc zMt) 142 := fun as h n Q hlen hP =>
  z_meth (T := zT_X7_shifts) zcal_142 (by decide +kernel) (Nat.le_trans (Nat.le_of_eq (zarg_sl as)) (Nat.le_of_ble_eq_true hlen)) (fun ad0 p e s m args below meth c F hr hl hn ht hK hE L hL q hq => zE_X7_shifts L hL q hq ⟨F, hr, hl, hn, ht, hK, hE, hst⟩) hP
theorem zCl_143 (hst : l.stackTraces = false) : zClAt (zMet l D vwCl dA RX5 zSt zNw zNc zMt) 143 := fun as h n Q hlen hP =>
  z_meth (T := zT_X7_inserts) zcal_143 (by decide +kernel) (Nat.le_trans (Nat.le_of_eq (zarg_sl as)) (Nat.le_of_ble_eq_true hlen)) (fun ad0 p e s m args below meth c F hr hl hn ht hK hE L hL q hq => zE_X7_inserts L hL q hq ⟨F, hr, hl, hn, ht, hK, hE, hst⟩) hP
theorem zCl_144 (hst : l.stackTraces = false) : zClAt (zMet l D vwCl dA RX5 zSt zNw zNc zMt) 144 := fun as h n Q hlen hP =>
  z_meth (T := zT_X7_removes) zcal_144 (by decide +kernel) (Nat.le_trans (Nat.le_of_eq (zarg_sl as)) (Nat.le_of_ble_eq_true hlen)) (fun ad0 p e s m args below meth c F hr hl hn ht hK hE L hL q hq => zE_X7_removes L hL q hq ⟨F, hr, hl, hn, ht, hK, hE, hst⟩) hP
theorem zCl_145 (hst : l.stackTraces = false) : zClAt (zMet l D vwCl dA RX5 zSt zNw zNc zMt) 145 := fun as h n Q hlen hP =>
  z_meth (T := zT_X7_edit) zcal_145 (by decide +kernel) (Nat.le_trans (Nat.le_of_eq (zarg_sl as)) (Nat.le_of_ble_eq_true hlen)) (fun ad0 p e s m args below meth c F hr hl hn ht hK hE L hL q hq => zE_X7_edit L hL q hq ⟨F, hr, hl, hn, ht, hK, hE, hst⟩) hP
theorem zCl_146 (hst : l.stackTraces = false) : zClAt (zMet l D vwCl dA RX5 zSt zNw zNc zMt) 146 := fun as h n Q hlen hP =>
  z_meth (T := zT_X7_move) zcal_146 (by decide +kernel) (Nat.le_trans (Nat.le_of_eq (zarg_sl as)) (Nat.le_of_ble_eq_true hlen)) (fun ad0 p e s m args below meth c F hr hl hn ht hK hE L hL q hq => zE_X7_move L hL q hq ⟨F, hr, hl, hn, ht, hK, hE, hst⟩) hP
theorem zCl_147 (hst : l.stackTraces = false) : zClAt (zMet l D vwCl dA RX5 zSt zNw zNc zMt) 147 := fun as h n Q hlen hP =>
  z_meth (T := zT_X7_insert) zcal_147 (by decide +kernel) (Nat.le_trans (Nat.le_of_eq (zarg_sl as)) (Nat.le_of_ble_eq_true hlen)) (fun ad0 p e s m args below meth c F hr hl hn ht hK hE L hL q hq => zE_X7_insert L hL q hq ⟨F, hr, hl, hn, ht, hK, hE, hst⟩) hP
theorem zCl_148 (hst : l.stackTraces = false) : zClAt (zMet l D vwCl dA RX5 zSt zNw zNc zMt) 148 := fun as h n Q hlen hP =>
  z_meth (T := zT_X7_remove) zcal_148 (by decide +kernel) (Nat.le_trans (Nat.le_of_eq (zarg_sl as)) (Nat.le_of_ble_eq_true hlen)) (fun ad0 p e s m args below meth c F hr hl hn ht hK hE L hL q hq => zE_X7_remove L hL q hq ⟨F, hr, hl, hn, ht, hK, hE, hst⟩) hP
theorem zCl_149 (hst : l.stackTraces = false) : zClAt (zMet l D vwCl dA RX5 zSt zNw zNc zMt) 149 := fun as h n Q hlen hP =>
  z_meth (T := zT_X7_baseSize) zcal_149 (by decide +kernel) (Nat.le_trans (Nat.le_of_eq (zarg_sl as)) (Nat.le_of_ble_eq_true hlen)) (fun ad0 p e s m args below meth c F hr hl hn ht hK hE L hL q hq => zE_X7_baseSize L hL q hq ⟨F, hr, hl, hn, ht, hK, hE, hst⟩) hP
theorem zCl_150 (hst : l.stackTraces = false) : zClAt (zMet l D vwCl dA RX5 zSt zNw zNc zMt) 150 := fun as h n Q hlen hP =>
  z_meth (T := zT_X7_size) zcal_150 (by decide +kernel) (Nat.le_trans (Nat.le_of_eq (zarg_sl as)) (Nat.le_of_ble_eq_true hlen)) (fun ad0 p e s m args below meth c F hr hl hn ht hK hE L hL q hq => zE_X7_size L hL q hq ⟨F, hr, hl, hn, ht, hK, hE, hst⟩) hP
theorem zCl_151 (hst : l.stackTraces = false) : zClAt (zMet l D vwCl dA RX5 zSt zNw zNc zMt) 151 := fun as h n Q hlen hP =>
  z_meth (T := zT_X7_block) zcal_151 (by decide +kernel) (Nat.le_trans (Nat.le_of_eq (zarg_sl as)) (Nat.le_of_ble_eq_true hlen)) (fun ad0 p e s m args below meth c F hr hl hn ht hK hE L hL q hq => zE_X7_block L hL q hq ⟨F, hr, hl, hn, ht, hK, hE, hst⟩) hP
theorem zCl_152 (hst : l.stackTraces = false) : zClAt (zMet l D vwCl dA RX5 zSt zNw zNc zMt) 152 := fun as h n Q hlen hP =>
  z_meth (T := zT_X7_content) zcal_152 (by decide +kernel) (Nat.le_trans (Nat.le_of_eq (zarg_sl as)) (Nat.le_of_ble_eq_true hlen)) (fun ad0 p e s m args below meth c F hr hl hn ht hK hE L hL q hq => zE_X7_content L hL q hq ⟨F, hr, hl, hn, ht, hK, hE, hst⟩) hP
theorem zCl_153 (hst : l.stackTraces = false) : zClAt (zMet l D vwCl dA RX5 zSt zNw zNc zMt) 153 := fun as h n Q hlen hP =>
  z_meth (T := zT_X7_keeps) zcal_153 (by decide +kernel) (Nat.le_trans (Nat.le_of_eq (zarg_sl as)) (Nat.le_of_ble_eq_true hlen)) (fun ad0 p e s m args below meth c F hr hl hn ht hK hE L hL q hq => zE_X7_keeps L hL q hq ⟨F, hr, hl, hn, ht, hK, hE, hst⟩) hP
theorem zCl_154 (hst : l.stackTraces = false) : zClAt (zMet l D vwCl dA RX5 zSt zNw zNc zMt) 154 := fun as h n Q hlen hP =>
  z_meth (T := zT_X7_doesMove) zcal_154 (by decide +kernel) (Nat.le_trans (Nat.le_of_eq (zarg_sl as)) (Nat.le_of_ble_eq_true hlen)) (fun ad0 p e s m args below meth c F hr hl hn ht hK hE L hL q hq => zE_X7_doesMove L hL q hq ⟨F, hr, hl, hn, ht, hK, hE, hst⟩) hP
theorem zCl_155 (hst : l.stackTraces = false) : zClAt (zMet l D vwCl dA RX5 zSt zNw zNc zMt) 155 := fun as h n Q hlen hP =>
  z_meth (T := zT_X7_changeOf) zcal_155 (by decide +kernel) (Nat.le_trans (Nat.le_of_eq (zarg_sl as)) (Nat.le_of_ble_eq_true hlen)) (fun ad0 p e s m args below meth c F hr hl hn ht hK hE L hL q hq => zE_X7_changeOf L hL q hq ⟨F, hr, hl, hn, ht, hK, hE, hst⟩) hP
theorem zCl_156 (hst : l.stackTraces = false) : zClAt (zMet l D vwCl dA RX5 zSt zNw zNc zMt) 156 := fun as h n Q hlen hP =>
  z_meth (T := zT_X7_change) zcal_156 (by decide +kernel) (Nat.le_trans (Nat.le_of_eq (zarg_sl as)) (Nat.le_of_ble_eq_true hlen)) (fun ad0 p e s m args below meth c F hr hl hn ht hK hE L hL q hq => zE_X7_change L hL q hq ⟨F, hr, hl, hn, ht, hK, hE, hst⟩) hP
theorem zCl_157 (hst : l.stackTraces = false) : zClAt (zMet l D vwCl dA RX5 zSt zNw zNc zMt) 157 := fun as h n Q hlen hP =>
  z_meth (T := zT_X7_moves) zcal_157 (by decide +kernel) (Nat.le_trans (Nat.le_of_eq (zarg_sl as)) (Nat.le_of_ble_eq_true hlen)) (fun ad0 p e s m args below meth c F hr hl hn ht hK hE L hL q hq => zE_X7_moves L hL q hq ⟨F, hr, hl, hn, ht, hK, hE, hst⟩) hP
theorem zCl_158 (hst : l.stackTraces = false) : zClAt (zMet l D vwCl dA RX5 zSt zNw zNc zMt) 158 := fun as h n Q hlen hP =>
  z_meth (T := zT_X7_chosen) zcal_158 (by decide +kernel) (Nat.le_trans (Nat.le_of_eq (zarg_sl as)) (Nat.le_of_ble_eq_true hlen)) (fun ad0 p e s m args below meth c F hr hl hn ht hK hE L hL q hq => zE_X7_chosen L hL q hq ⟨F, hr, hl, hn, ht, hK, hE, hst⟩) hP
theorem zCl_159 (hst : l.stackTraces = false) : zClAt (zMet l D vwCl dA RX5 zSt zNw zNc zMt) 159 := fun as h n Q hlen hP =>
  z_meth (T := zT_X7_ahead) zcal_159 (by decide +kernel) (Nat.le_trans (Nat.le_of_eq (zarg_sl as)) (Nat.le_of_ble_eq_true hlen)) (fun ad0 p e s m args below meth c F hr hl hn ht hK hE L hL q hq => zE_X7_ahead L hL q hq ⟨F, hr, hl, hn, ht, hK, hE, hst⟩) hP
theorem zCl_160 (hst : l.stackTraces = false) : zClAt (zMet l D vwCl dA RX5 zSt zNw zNc zMt) 160 := fun as h n Q hlen hP =>
  z_meth (T := zT_X7_judges) zcal_160 (by decide +kernel) (Nat.le_trans (Nat.le_of_eq (zarg_sl as)) (Nat.le_of_ble_eq_true hlen)) (fun ad0 p e s m args below meth c F hr hl hn ht hK hE L hL q hq => zE_X7_judges L hL q hq ⟨F, hr, hl, hn, ht, hK, hE, hst⟩) hP
theorem zCl_161 (hst : l.stackTraces = false) : zClAt (zMet l D vwCl dA RX5 zSt zNw zNc zMt) 161 := fun as h n Q hlen hP =>
  z_meth (T := zT_X7_mergedAt) zcal_161 (by decide +kernel) (Nat.le_trans (Nat.le_of_eq (zarg_sl as)) (Nat.le_of_ble_eq_true hlen)) (fun ad0 p e s m args below meth c F hr hl hn ht hK hE L hL q hq => zE_X7_mergedAt L hL q hq ⟨F, hr, hl, hn, ht, hK, hE, hst⟩) hP
theorem zCl_162 (hst : l.stackTraces = false) : zClAt (zMet l D vwCl dA RX5 zSt zNw zNc zMt) 162 := fun as h n Q hlen hP =>
  z_meth (T := zT_X7_lays) zcal_162 (by decide +kernel) (Nat.le_trans (Nat.le_of_eq (zarg_sl as)) (Nat.le_of_ble_eq_true hlen)) (fun ad0 p e s m args below meth c F hr hl hn ht hK hE L hL q hq => zE_X7_lays L hL q hq ⟨F, hr, hl, hn, ht, hK, hE, hst⟩) hP
theorem zCl_163 (hst : l.stackTraces = false) : zClAt (zMet l D vwCl dA RX5 zSt zNw zNc zMt) 163 := fun as h n Q hlen hP =>
  z_meth (T := zT_X7_laysOf) zcal_163 (by decide +kernel) (Nat.le_trans (Nat.le_of_eq (zarg_sl as)) (Nat.le_of_ble_eq_true hlen)) (fun ad0 p e s m args below meth c F hr hl hn ht hK hE L hL q hq => zE_X7_laysOf L hL q hq ⟨F, hr, hl, hn, ht, hK, hE, hst⟩) hP
theorem zCl_164 (hst : l.stackTraces = false) : zClAt (zMet l D vwCl dA RX5 zSt zNw zNc zMt) 164 := fun as h n Q hlen hP =>
  z_meth (T := zT_X7_merges) zcal_164 (by decide +kernel) (Nat.le_trans (Nat.le_of_eq (zarg_sl as)) (Nat.le_of_ble_eq_true hlen)) (fun ad0 p e s m args below meth c F hr hl hn ht hK hE L hL q hq => zE_X7_merges L hL q hq ⟨F, hr, hl, hn, ht, hK, hE, hst⟩) hP
theorem zCl_165 (hst : l.stackTraces = false) : zClAt (zMet l D vwCl dA RX5 zSt zNw zNc zMt) 165 := fun as h n Q hlen hP =>
  z_meth (T := zT_X7_mergedSize) zcal_165 (by decide +kernel) (Nat.le_trans (Nat.le_of_eq (zarg_sl as)) (Nat.le_of_ble_eq_true hlen)) (fun ad0 p e s m args below meth c F hr hl hn ht hK hE L hL q hq => zE_X7_mergedSize L hL q hq ⟨F, hr, hl, hn, ht, hK, hE, hst⟩) hP
theorem zCl_166 (hst : l.stackTraces = false) : zClAt (zMet l D vwCl dA RX5 zSt zNw zNc zMt) 166 := fun as h n Q hlen hP =>
  z_meth (T := zT_X7_mergedBlock) zcal_166 (by decide +kernel) (Nat.le_trans (Nat.le_of_eq (zarg_sl as)) (Nat.le_of_ble_eq_true hlen)) (fun ad0 p e s m args below meth c F hr hl hn ht hK hE L hL q hq => zE_X7_mergedBlock L hL q hq ⟨F, hr, hl, hn, ht, hK, hE, hst⟩) hP
theorem zCl_167 (hst : l.stackTraces = false) : zClAt (zMet l D vwCl dA RX5 zSt zNw zNc zMt) 167 := fun as h n Q hlen hP =>
  z_meth (T := zT_X7_mergedContent) zcal_167 (by decide +kernel) (Nat.le_trans (Nat.le_of_eq (zarg_sl as)) (Nat.le_of_ble_eq_true hlen)) (fun ad0 p e s m args below meth c F hr hl hn ht hK hE L hL q hq => zE_X7_mergedContent L hL q hq ⟨F, hr, hl, hn, ht, hK, hE, hst⟩) hP
theorem zCl_168 (hst : l.stackTraces = false) : zClAt (zMet l D vwCl dA RX5 zSt zNw zNc zMt) 168 := fun as h n Q hlen hP =>
  z_meth (T := zT_X7_conflicts) zcal_168 (by decide +kernel) (Nat.le_trans (Nat.le_of_eq (zarg_sl as)) (Nat.le_of_ble_eq_true hlen)) (fun ad0 p e s m args below meth c F hr hl hn ht hK hE L hL q hq => zE_X7_conflicts L hL q hq ⟨F, hr, hl, hn, ht, hK, hE, hst⟩) hP
theorem zCl_169 (hst : l.stackTraces = false) : zClAt (zMet l D vwCl dA RX5 zSt zNw zNc zMt) 169 := fun as h n Q hlen hP =>
  z_meth (T := zT_X7_conflictBlock) zcal_169 (by decide +kernel) (Nat.le_trans (Nat.le_of_eq (zarg_sl as)) (Nat.le_of_ble_eq_true hlen)) (fun ad0 p e s m args below meth c F hr hl hn ht hK hE L hL q hq => zE_X7_conflictBlock L hL q hq ⟨F, hr, hl, hn, ht, hK, hE, hst⟩) hP
theorem zCl_170 (hst : l.stackTraces = false) : zClAt (zMet l D vwCl dA RX5 zSt zNw zNc zMt) 170 := fun as h n Q hlen hP =>
  z_meth (T := zT_X7_conflictKind) zcal_170 (by decide +kernel) (Nat.le_trans (Nat.le_of_eq (zarg_sl as)) (Nat.le_of_ble_eq_true hlen)) (fun ad0 p e s m args below meth c F hr hl hn ht hK hE L hL q hq => zE_X7_conflictKind L hL q hq ⟨F, hr, hl, hn, ht, hK, hE, hst⟩) hP
theorem zCl_171 (hst : l.stackTraces = false) : zClAt (zMet l D vwCl dA RX5 zSt zNw zNc zMt) 171 := fun as h n Q hlen hP =>
  z_meth (T := zT_X7_choose) zcal_171 (by decide +kernel) (Nat.le_trans (Nat.le_of_eq (zarg_sl as)) (Nat.le_of_ble_eq_true hlen)) (fun ad0 p e s m args below meth c F hr hl hn ht hK hE L hL q hq => zE_X7_choose L hL q hq ⟨F, hr, hl, hn, ht, hK, hE, hst⟩) hP
theorem zCl_172 (hst : l.stackTraces = false) : zClAt (zMet l D vwCl dA RX5 zSt zNw zNc zMt) 172 := fun as h n Q hlen hP =>
  z_meth (T := zT_X7_prefer) zcal_172 (by decide +kernel) (Nat.le_trans (Nat.le_of_eq (zarg_sl as)) (Nat.le_of_ble_eq_true hlen)) (fun ad0 p e s m args below meth c F hr hl hn ht hK hE L hL q hq => zE_X7_prefer L hL q hq ⟨F, hr, hl, hn, ht, hK, hE, hst⟩) hP
theorem zCl_173 (hst : l.stackTraces = false) : zClAt (zMet l D vwCl dA RX5 zSt zNw zNc zMt) 173 := fun as h n Q hlen hP =>
  z_meth (T := zT_X7_openOnes) zcal_173 (by decide +kernel) (Nat.le_trans (Nat.le_of_eq (zarg_sl as)) (Nat.le_of_ble_eq_true hlen)) (fun ad0 p e s m args below meth c F hr hl hn ht hK hE L hL q hq => zE_X7_openOnes L hL q hq ⟨F, hr, hl, hn, ht, hK, hE, hst⟩) hP
theorem zCl_174 (hst : l.stackTraces = false) : zClAt (zMet l D vwCl dA RX5 zSt zNw zNc zMt) 174 := fun as h n Q hlen hP =>
  z_meth (T := zT_X7_open) zcal_174 (by decide +kernel) (Nat.le_trans (Nat.le_of_eq (zarg_sl as)) (Nat.le_of_ble_eq_true hlen)) (fun ad0 p e s m args below meth c F hr hl hn ht hK hE L hL q hq => zE_X7_open L hL q hq ⟨F, hr, hl, hn, ht, hK, hE, hst⟩) hP
theorem zCl_175 (hst : l.stackTraces = false) : zClAt (zMet l D vwCl dA RX5 zSt zNw zNc zMt) 175 := fun as h n Q hlen hP =>
  z_meth (T := zT_X7_accept) zcal_175 (by decide +kernel) (Nat.le_trans (Nat.le_of_eq (zarg_sl as)) (Nat.le_of_ble_eq_true hlen)) (fun ad0 p e s m args below meth c F hr hl hn ht hK hE L hL q hq => zE_X7_accept L hL q hq ⟨F, hr, hl, hn, ht, hK, hE, hst⟩) hP
theorem zCl_176 (hst : l.stackTraces = false) : zClAt (zMet l D vwCl dA RX5 zSt zNw zNc zMt) 176 := fun as h n Q hlen hP =>
  z_meth (T := zT_X7_accepted) zcal_176 (by decide +kernel) (Nat.le_trans (Nat.le_of_eq (zarg_sl as)) (Nat.le_of_ble_eq_true hlen)) (fun ad0 p e s m args below meth c F hr hl hn ht hK hE L hL q hq => zE_X7_accepted L hL q hq ⟨F, hr, hl, hn, ht, hK, hE, hst⟩) hP
theorem zCl_177 (hst : l.stackTraces = false) : zClAt (zMet l D vwCl dA RX5 zSt zNw zNc zMt) 177 := fun as h n Q hlen hP =>
  z_meth (T := zT_X7_similarity) zcal_177 (by decide +kernel) (Nat.le_trans (Nat.le_of_eq (zarg_sl as)) (Nat.le_of_ble_eq_true hlen)) (fun ad0 p e s m args below meth c F hr hl hn ht hK hE L hL q hq => zE_X7_similarity L hL q hq ⟨F, hr, hl, hn, ht, hK, hE, hst⟩) hP
theorem zCl_178 (hst : l.stackTraces = false) : zClAt (zMet l D vwCl dA RX5 zSt zNw zNc zMt) 178 := fun as h n Q hlen hP =>
  z_meth (T := zT_X7_append) zcal_178 (by decide +kernel) (Nat.le_trans (Nat.le_of_eq (zarg_sl as)) (Nat.le_of_ble_eq_true hlen)) (fun ad0 p e s m args below meth c F hr hl hn ht hK hE L hL q hq => zE_X7_append L hL q hq ⟨F, hr, hl, hn, ht, hK, hE, hst⟩) hP
theorem zCl_179 (hst : l.stackTraces = false) : zClAt (zMet l D vwCl dA RX5 zSt zNw zNc zMt) 179 := fun as h n Q hlen hP =>
  z_meth (T := zT_X7_clearText) zcal_179 (by decide +kernel) (Nat.le_trans (Nat.le_of_eq (zarg_sl as)) (Nat.le_of_ble_eq_true hlen)) (fun ad0 p e s m args below meth c F hr hl hn ht hK hE L hL q hq => zE_X7_clearText L hL q hq ⟨F, hr, hl, hn, ht, hK, hE, hst⟩) hP
theorem zCl_180 (hst : l.stackTraces = false) : zClAt (zMet l D vwCl dA RX5 zSt zNw zNc zMt) 180 := fun as h n Q hlen hP =>
  z_meth (T := zT_X7_next) zcal_180 (by decide +kernel) (Nat.le_trans (Nat.le_of_eq (zarg_sl as)) (Nat.le_of_ble_eq_true hlen)) (fun ad0 p e s m args below meth c F hr hl hn ht hK hE L hL q hq => zE_X7_next L hL q hq ⟨F, hr, hl, hn, ht, hK, hE, hst⟩) hP
theorem zCl_181 (hst : l.stackTraces = false) : zClAt (zMet l D vwCl dA RX5 zSt zNw zNc zMt) 181 := fun as h n Q hlen hP =>
  z_meth (T := zT_X7_sign) zcal_181 (by decide +kernel) (Nat.le_trans (Nat.le_of_eq (zarg_sl as)) (Nat.le_of_ble_eq_true hlen)) (fun ad0 p e s m args below meth c F hr hl hn ht hK hE L hL q hq => zE_X7_sign L hL q hq ⟨F, hr, hl, hn, ht, hK, hE, hst⟩) hP
theorem zCl_182 (hst : l.stackTraces = false) : zClAt (zMet l D vwCl dA RX5 zSt zNw zNc zMt) 182 := fun as h n Q hlen hP =>
  z_meth (T := zT_X7_digit) zcal_182 (by decide +kernel) (Nat.le_trans (Nat.le_of_eq (zarg_sl as)) (Nat.le_of_ble_eq_true hlen)) (fun ad0 p e s m args below meth c F hr hl hn ht hK hE L hL q hq => zE_X7_digit L hL q hq ⟨F, hr, hl, hn, ht, hK, hE, hst⟩) hP
theorem zCl_183 (hst : l.stackTraces = false) : zClAt (zMet l D vwCl dA RX5 zSt zNw zNc zMt) 183 := fun as h n Q hlen hP =>
  z_meth (T := zT_X7_number) zcal_183 (by decide +kernel) (Nat.le_trans (Nat.le_of_eq (zarg_sl as)) (Nat.le_of_ble_eq_true hlen)) (fun ad0 p e s m args below meth c F hr hl hn ht hK hE L hL q hq => zE_X7_number L hL q hq ⟨F, hr, hl, hn, ht, hK, hE, hst⟩) hP
theorem zCl_184 (hst : l.stackTraces = false) : zClAt (zMet l D vwCl dA RX5 zSt zNw zNc zMt) 184 := fun as h n Q hlen hP =>
  z_meth (T := zT_X7_command) zcal_184 (by decide +kernel) (Nat.le_trans (Nat.le_of_eq (zarg_sl as)) (Nat.le_of_ble_eq_true hlen)) (fun ad0 p e s m args below meth c F hr hl hn ht hK hE L hL q hq => zE_X7_command L hL q hq ⟨F, hr, hl, hn, ht, hK, hE, hst⟩) hP
theorem zCl_185 (hst : l.stackTraces = false) : zClAt (zMet l D vwCl dA RX5 zSt zNw zNc zMt) 185 := fun as h n Q hlen hP =>
  z_meth (T := zT_X7_isWhole) zcal_185 (by decide +kernel) (Nat.le_trans (Nat.le_of_eq (zarg_sl as)) (Nat.le_of_ble_eq_true hlen)) (fun ad0 p e s m args below meth c F hr hl hn ht hK hE L hL q hq => zE_X7_isWhole L hL q hq ⟨F, hr, hl, hn, ht, hK, hE, hst⟩) hP
theorem zCl_186 (hst : l.stackTraces = false) : zClAt (zMet l D vwCl dA RX5 zSt zNw zNc zMt) 186 := fun as h n Q hlen hP =>
  z_meth (T := zT_X7_firstError) zcal_186 (by decide +kernel) (Nat.le_trans (Nat.le_of_eq (zarg_sl as)) (Nat.le_of_ble_eq_true hlen)) (fun ad0 p e s m args below meth c F hr hl hn ht hK hE L hL q hq => zE_X7_firstError L hL q hq ⟨F, hr, hl, hn, ht, hK, hE, hst⟩) hP
theorem zCl_187 (hst : l.stackTraces = false) : zClAt (zMet l D vwCl dA RX5 zSt zNw zNc zMt) 187 := fun as h n Q hlen hP =>
  z_meth (T := zT_X7_bars) zcal_187 (by decide +kernel) (Nat.le_trans (Nat.le_of_eq (zarg_sl as)) (Nat.le_of_ble_eq_true hlen)) (fun ad0 p e s m args below meth c F hr hl hn ht hK hE L hL q hq => zE_X7_bars L hL q hq ⟨F, hr, hl, hn, ht, hK, hE, hst⟩) hP
theorem zCl_188 (hst : l.stackTraces = false) : zClAt (zMet l D vwCl dA RX5 zSt zNw zNc zMt) 188 := fun as h n Q hlen hP =>
  z_meth (T := zT_X7_does) zcal_188 (by decide +kernel) (Nat.le_trans (Nat.le_of_eq (zarg_sl as)) (Nat.le_of_ble_eq_true hlen)) (fun ad0 p e s m args below meth c F hr hl hn ht hK hE L hL q hq => zE_X7_does L hL q hq ⟨F, hr, hl, hn, ht, hK, hE, hst⟩) hP
theorem zCl_189 (hst : l.stackTraces = false) : zClAt (zMet l D vwCl dA RX5 zSt zNw zNc zMt) 189 := fun as h n Q hlen hP =>
  z_meth (T := zT_X7_run) zcal_189 (by decide +kernel) (Nat.le_trans (Nat.le_of_eq (zarg_sl as)) (Nat.le_of_ble_eq_true hlen)) (fun ad0 p e s m args below meth c F hr hl hn ht hK hE L hL q hq => zE_X7_run L hL q hq ⟨F, hr, hl, hn, ht, hK, hE, hst⟩) hP
theorem zCl_190 (hst : l.stackTraces = false) : zClAt (zMet l D vwCl dA RX5 zSt zNw zNc zMt) 190 := fun as h n Q hlen hP =>
  z_meth (T := zT_X7_undo) zcal_190 (by decide +kernel) (Nat.le_trans (Nat.le_of_eq (zarg_sl as)) (Nat.le_of_ble_eq_true hlen)) (fun ad0 p e s m args below meth c F hr hl hn ht hK hE L hL q hq => zE_X7_undo L hL q hq ⟨F, hr, hl, hn, ht, hK, hE, hst⟩) hP
theorem zCl_191 (hst : l.stackTraces = false) : zClAt (zMet l D vwCl dA RX5 zSt zNw zNc zMt) 191 := fun as h n Q hlen hP =>
  z_meth (T := zT_X7_savedStates) zcal_191 (by decide +kernel) (Nat.le_trans (Nat.le_of_eq (zarg_sl as)) (Nat.le_of_ble_eq_true hlen)) (fun ad0 p e s m args below meth c F hr hl hn ht hK hE L hL q hq => zE_X7_savedStates L hL q hq ⟨F, hr, hl, hn, ht, hK, hE, hst⟩) hP
theorem zCl_192 (hst : l.stackTraces = false) : zClAt (zMet l D vwCl dA RX5 zSt zNw zNc zMt) 192 := fun as h n Q hlen hP =>
  z_meth (T := zT_X7_digest) zcal_192 (by decide +kernel) (Nat.le_trans (Nat.le_of_eq (zarg_sl as)) (Nat.le_of_ble_eq_true hlen)) (fun ad0 p e s m args below meth c F hr hl hn ht hK hE L hL q hq => zE_X7_digest L hL q hq ⟨F, hr, hl, hn, ht, hK, hE, hst⟩) hP
theorem zCl_193 (hst : l.stackTraces = false) : zClAt (zMet l D vwCl dA RX5 zSt zNw zNc zMt) 193 := fun as h n Q hlen hP =>
  z_meth (T := zT_JA_fill) zcal_193 (by decide +kernel) (Nat.le_trans (Nat.le_of_eq (zarg_sl as)) (Nat.le_of_ble_eq_true hlen)) (fun ad0 p e s m args below meth c F hr hl hn ht hK hE L hL q hq => zE_JA_fill L hL q hq ⟨F, hr, hl, hn, ht, hK, hE, hst⟩) hP
theorem zCl_194 (hst : l.stackTraces = false) : zClAt (zMet l D vwCl dA RX5 zSt zNw zNc zMt) 194 := fun as h n Q hlen hP =>
  z_methH (T := zT_L_addBase) zcal_194 (by decide +kernel) (Nat.le_trans (Nat.le_of_eq (zarg_sl as)) (Nat.le_of_ble_eq_true hlen)) (fun ad0 p e s m args below meth c F hr hl hn ht hK hE L hL q hq => zE_L_addBase L hL q hq ⟨F, hr, hl, hn, ht, hK, hE, hst⟩) hP
theorem zCl_195 (hst : l.stackTraces = false) : zClAt (zMet l D vwCl dA RX5 zSt zNw zNc zMt) 195 := fun as h n Q hlen hP =>
  z_methH (T := zT_L_edit) zcal_195 (by decide +kernel) (Nat.le_trans (Nat.le_of_eq (zarg_sl as)) (Nat.le_of_ble_eq_true hlen)) (fun ad0 p e s m args below meth c F hr hl hn ht hK hE L hL q hq => zE_L_edit L hL q hq ⟨F, hr, hl, hn, ht, hK, hE, hst⟩) hP
theorem zCl_196 (hst : l.stackTraces = false) : zClAt (zMet l D vwCl dA RX5 zSt zNw zNc zMt) 196 := fun as h n Q hlen hP =>
  z_methH (T := zT_L_move) zcal_196 (by decide +kernel) (Nat.le_trans (Nat.le_of_eq (zarg_sl as)) (Nat.le_of_ble_eq_true hlen)) (fun ad0 p e s m args below meth c F hr hl hn ht hK hE L hL q hq => zE_L_move L hL q hq ⟨F, hr, hl, hn, ht, hK, hE, hst⟩) hP
theorem zCl_197 (hst : l.stackTraces = false) : zClAt (zMet l D vwCl dA RX5 zSt zNw zNc zMt) 197 := fun as h n Q hlen hP =>
  z_methH (T := zT_L_insert) zcal_197 (by decide +kernel) (Nat.le_trans (Nat.le_of_eq (zarg_sl as)) (Nat.le_of_ble_eq_true hlen)) (fun ad0 p e s m args below meth c F hr hl hn ht hK hE L hL q hq => zE_L_insert L hL q hq ⟨F, hr, hl, hn, ht, hK, hE, hst⟩) hP
theorem zCl_198 (hst : l.stackTraces = false) : zClAt (zMet l D vwCl dA RX5 zSt zNw zNc zMt) 198 := fun as h n Q hlen hP =>
  z_methH (T := zT_L_remove) zcal_198 (by decide +kernel) (Nat.le_trans (Nat.le_of_eq (zarg_sl as)) (Nat.le_of_ble_eq_true hlen)) (fun ad0 p e s m args below meth c F hr hl hn ht hK hE L hL q hq => zE_L_remove L hL q hq ⟨F, hr, hl, hn, ht, hK, hE, hst⟩) hP
theorem zCl_199 (hst : l.stackTraces = false) : zClAt (zMet l D vwCl dA RX5 zSt zNw zNc zMt) 199 := fun as h n Q hlen hP =>
  z_methH (T := zT_L_size) zcal_199 (by decide +kernel) (Nat.le_trans (Nat.le_of_eq (zarg_sl as)) (Nat.le_of_ble_eq_true hlen)) (fun ad0 p e s m args below meth c F hr hl hn ht hK hE L hL q hq => zE_L_size L hL q hq ⟨F, hr, hl, hn, ht, hK, hE, hst⟩) hP
theorem zCl_200 (hst : l.stackTraces = false) : zClAt (zMet l D vwCl dA RX5 zSt zNw zNc zMt) 200 := fun as h n Q hlen hP =>
  z_methH (T := zT_L_block) zcal_200 (by decide +kernel) (Nat.le_trans (Nat.le_of_eq (zarg_sl as)) (Nat.le_of_ble_eq_true hlen)) (fun ad0 p e s m args below meth c F hr hl hn ht hK hE L hL q hq => zE_L_block L hL q hq ⟨F, hr, hl, hn, ht, hK, hE, hst⟩) hP
theorem zCl_201 (hst : l.stackTraces = false) : zClAt (zMet l D vwCl dA RX5 zSt zNw zNc zMt) 201 := fun as h n Q hlen hP =>
  z_methH (T := zT_L_content) zcal_201 (by decide +kernel) (Nat.le_trans (Nat.le_of_eq (zarg_sl as)) (Nat.le_of_ble_eq_true hlen)) (fun ad0 p e s m args below meth c F hr hl hn ht hK hE L hL q hq => zE_L_content L hL q hq ⟨F, hr, hl, hn, ht, hK, hE, hst⟩) hP
theorem zCl_202 (hst : l.stackTraces = false) : zClAt (zMet l D vwCl dA RX5 zSt zNw zNc zMt) 202 := fun as h n Q hlen hP =>
  z_methH (T := zT_L_change) zcal_202 (by decide +kernel) (Nat.le_trans (Nat.le_of_eq (zarg_sl as)) (Nat.le_of_ble_eq_true hlen)) (fun ad0 p e s m args below meth c F hr hl hn ht hK hE L hL q hq => zE_L_change L hL q hq ⟨F, hr, hl, hn, ht, hK, hE, hst⟩) hP
theorem zCl_203 (hst : l.stackTraces = false) : zClAt (zMet l D vwCl dA RX5 zSt zNw zNc zMt) 203 := fun as h n Q hlen hP =>
  z_methH (T := zT_L_moves) zcal_203 (by decide +kernel) (Nat.le_trans (Nat.le_of_eq (zarg_sl as)) (Nat.le_of_ble_eq_true hlen)) (fun ad0 p e s m args below meth c F hr hl hn ht hK hE L hL q hq => zE_L_moves L hL q hq ⟨F, hr, hl, hn, ht, hK, hE, hst⟩) hP
theorem zCl_204 (hst : l.stackTraces = false) : zClAt (zMet l D vwCl dA RX5 zSt zNw zNc zMt) 204 := fun as h n Q hlen hP =>
  z_methH (T := zT_L_mergedBlock) zcal_204 (by decide +kernel) (Nat.le_trans (Nat.le_of_eq (zarg_sl as)) (Nat.le_of_ble_eq_true hlen)) (fun ad0 p e s m args below meth c F hr hl hn ht hK hE L hL q hq => zE_L_mergedBlock L hL q hq ⟨F, hr, hl, hn, ht, hK, hE, hst⟩) hP
theorem zCl_205 (hst : l.stackTraces = false) : zClAt (zMet l D vwCl dA RX5 zSt zNw zNc zMt) 205 := fun as h n Q hlen hP =>
  z_methH (T := zT_L_mergedContent) zcal_205 (by decide +kernel) (Nat.le_trans (Nat.le_of_eq (zarg_sl as)) (Nat.le_of_ble_eq_true hlen)) (fun ad0 p e s m args below meth c F hr hl hn ht hK hE L hL q hq => zE_L_mergedContent L hL q hq ⟨F, hr, hl, hn, ht, hK, hE, hst⟩) hP
theorem zCl_206 (hst : l.stackTraces = false) : zClAt (zMet l D vwCl dA RX5 zSt zNw zNc zMt) 206 := fun as h n Q hlen hP =>
  z_methH (T := zT_L_conflictBlock) zcal_206 (by decide +kernel) (Nat.le_trans (Nat.le_of_eq (zarg_sl as)) (Nat.le_of_ble_eq_true hlen)) (fun ad0 p e s m args below meth c F hr hl hn ht hK hE L hL q hq => zE_L_conflictBlock L hL q hq ⟨F, hr, hl, hn, ht, hK, hE, hst⟩) hP
theorem zCl_207 (hst : l.stackTraces = false) : zClAt (zMet l D vwCl dA RX5 zSt zNw zNc zMt) 207 := fun as h n Q hlen hP =>
  z_methH (T := zT_L_conflictKind) zcal_207 (by decide +kernel) (Nat.le_trans (Nat.le_of_eq (zarg_sl as)) (Nat.le_of_ble_eq_true hlen)) (fun ad0 p e s m args below meth c F hr hl hn ht hK hE L hL q hq => zE_L_conflictKind L hL q hq ⟨F, hr, hl, hn, ht, hK, hE, hst⟩) hP
theorem zCl_208 (hst : l.stackTraces = false) : zClAt (zMet l D vwCl dA RX5 zSt zNw zNc zMt) 208 := fun as h n Q hlen hP =>
  z_methH (T := zT_L_choose) zcal_208 (by decide +kernel) (Nat.le_trans (Nat.le_of_eq (zarg_sl as)) (Nat.le_of_ble_eq_true hlen)) (fun ad0 p e s m args below meth c F hr hl hn ht hK hE L hL q hq => zE_L_choose L hL q hq ⟨F, hr, hl, hn, ht, hK, hE, hst⟩) hP
theorem zCl_209 (hst : l.stackTraces = false) : zClAt (zMet l D vwCl dA RX5 zSt zNw zNc zMt) 209 := fun as h n Q hlen hP =>
  z_methH (T := zT_L_prefer) zcal_209 (by decide +kernel) (Nat.le_trans (Nat.le_of_eq (zarg_sl as)) (Nat.le_of_ble_eq_true hlen)) (fun ad0 p e s m args below meth c F hr hl hn ht hK hE L hL q hq => zE_L_prefer L hL q hq ⟨F, hr, hl, hn, ht, hK, hE, hst⟩) hP
theorem zCl_210 (hst : l.stackTraces = false) : zClAt (zMet l D vwCl dA RX5 zSt zNw zNc zMt) 210 := fun as h n Q hlen hP =>
  z_methH (T := zT_L_accept) zcal_210 (by decide +kernel) (Nat.le_trans (Nat.le_of_eq (zarg_sl as)) (Nat.le_of_ble_eq_true hlen)) (fun ad0 p e s m args below meth c F hr hl hn ht hK hE L hL q hq => zE_L_accept L hL q hq ⟨F, hr, hl, hn, ht, hK, hE, hst⟩) hP
theorem zCl_211 (hst : l.stackTraces = false) : zClAt (zMet l D vwCl dA RX5 zSt zNw zNc zMt) 211 := fun as h n Q hlen hP =>
  z_methH (T := zT_L_similarity) zcal_211 (by decide +kernel) (Nat.le_trans (Nat.le_of_eq (zarg_sl as)) (Nat.le_of_ble_eq_true hlen)) (fun ad0 p e s m args below meth c F hr hl hn ht hK hE L hL q hq => zE_L_similarity L hL q hq ⟨F, hr, hl, hn, ht, hK, hE, hst⟩) hP
theorem zCl_212 (hst : l.stackTraces = false) : zClAt (zMet l D vwCl dA RX5 zSt zNw zNc zMt) 212 := fun as h n Q hlen hP =>
  z_methH (T := zT_L_append) zcal_212 (by decide +kernel) (Nat.le_trans (Nat.le_of_eq (zarg_sl as)) (Nat.le_of_ble_eq_true hlen)) (fun ad0 p e s m args below meth c F hr hl hn ht hK hE L hL q hq => zE_L_append L hL q hq ⟨F, hr, hl, hn, ht, hK, hE, hst⟩) hP
theorem zCl_213 (hst : l.stackTraces = false) : zClAt (zMet l D vwCl dA RX5 zSt zNw zNc zMt) 213 := fun as h n Q hlen hP =>
  z_methH (T := zT_L_run) zcal_213 (by decide +kernel) (Nat.le_trans (Nat.le_of_eq (zarg_sl as)) (Nat.le_of_ble_eq_true hlen)) (fun ad0 p e s m args below meth c F hr hl hn ht hK hE L hL q hq => zE_L_run L hL q hq ⟨F, hr, hl, hn, ht, hK, hE, hst⟩) hP
theorem zCl_214 (hst : l.stackTraces = false) : zClAt (zMet l D vwCl dA RX5 zSt zNw zNc zMt) 214 := fun as h n Q hlen hP =>
  z_methH (T := zT_L_undo) zcal_214 (by decide +kernel) (Nat.le_trans (Nat.le_of_eq (zarg_sl as)) (Nat.le_of_ble_eq_true hlen)) (fun ad0 p e s m args below meth c F hr hl hn ht hK hE L hL q hq => zE_L_undo L hL q hq ⟨F, hr, hl, hn, ht, hK, hE, hst⟩) hP
theorem zCls_30 (hst : l.stackTraces = false) : ∀ y, y < 30 → zClAt (zMet l D vwCl dA RX5 zSt zNw zNc zMt) y := (lt_s (lt_s (lt_s (lt_s (lt_s (lt_s (lt_s (lt_s (lt_s (lt_s (lt_s (lt_s (lt_s (lt_s (lt_s (lt_s (lt_s (lt_s (lt_s (lt_s (lt_s (lt_s (lt_s (lt_s (lt_s (lt_s (lt_s (lt_s (lt_s (lt_s lt_0 (zCl_0 hst)) (zCl_1 hst)) (zCl_2 hst)) (zCl_3 hst)) (zCl_4 hst)) (zCl_5 hst)) (zCl_6 hst)) (zCl_7 hst)) (zCl_8 hst)) (zCl_9 hst)) (zCl_10 hst)) (zCl_11 hst)) (zCl_12 hst)) (zCl_13 hst)) (zCl_14 hst)) (zCl_15 hst)) (zCl_16 hst)) (zCl_17 hst)) (zCl_18 hst)) (zCl_19 hst)) (zCl_20 hst)) (zCl_21 hst)) (zCl_22 hst)) (zCl_23 hst)) (zCl_24 hst)) (zCl_25 hst)) (zCl_26 hst)) (zCl_27 hst)) (zCl_28 hst)) (zCl_29 hst))
theorem zCls_60 (hst : l.stackTraces = false) : ∀ y, y < 60 → zClAt (zMet l D vwCl dA RX5 zSt zNw zNc zMt) y := (lt_s (lt_s (lt_s (lt_s (lt_s (lt_s (lt_s (lt_s (lt_s (lt_s (lt_s (lt_s (lt_s (lt_s (lt_s (lt_s (lt_s (lt_s (lt_s (lt_s (lt_s (lt_s (lt_s (lt_s (lt_s (lt_s (lt_s (lt_s (lt_s (lt_s (zCls_30 hst) (zCl_30 hst)) (zCl_31 hst)) (zCl_32 hst)) (zCl_33 hst)) (zCl_34 hst)) (zCl_35 hst)) (zCl_36 hst)) (zCl_37 hst)) (zCl_38 hst)) (zCl_39 hst)) (zCl_40 hst)) (zCl_41 hst)) (zCl_42 hst)) (zCl_43 hst)) (zCl_44 hst)) (zCl_45 hst)) (zCl_46 hst)) (zCl_47 hst)) (zCl_48 hst)) (zCl_49 hst)) (zCl_50 hst)) (zCl_51 hst)) (zCl_52 hst)) (zCl_53 hst)) (zCl_54 hst)) (zCl_55 hst)) (zCl_56 hst)) (zCl_57 hst)) (zCl_58 hst)) (zCl_59 hst))
theorem zCls_90 (hst : l.stackTraces = false) : ∀ y, y < 90 → zClAt (zMet l D vwCl dA RX5 zSt zNw zNc zMt) y := (lt_s (lt_s (lt_s (lt_s (lt_s (lt_s (lt_s (lt_s (lt_s (lt_s (lt_s (lt_s (lt_s (lt_s (lt_s (lt_s (lt_s (lt_s (lt_s (lt_s (lt_s (lt_s (lt_s (lt_s (lt_s (lt_s (lt_s (lt_s (lt_s (lt_s (zCls_60 hst) (zCl_60 hst)) (zCl_61 hst)) (zCl_62 hst)) (zCl_63 hst)) (zCl_64 hst)) (zCl_65 hst)) (zCl_66 hst)) (zCl_67 hst)) (zCl_68 hst)) (zCl_69 hst)) (zCl_70 hst)) (zCl_71 hst)) (zCl_72 hst)) (zCl_73 hst)) (zCl_74 hst)) (zCl_75 hst)) (zCl_76 hst)) (zCl_77 hst)) (zCl_78 hst)) (zCl_79 hst)) (zCl_80 hst)) (zCl_81 hst)) (zCl_82 hst)) (zCl_83 hst)) (zCl_84 hst)) (zCl_85 hst)) (zCl_86 hst)) (zCl_87 hst)) (zCl_88 hst)) (zCl_89 hst))
theorem zCls_120 (hst : l.stackTraces = false) : ∀ y, y < 120 → zClAt (zMet l D vwCl dA RX5 zSt zNw zNc zMt) y := (lt_s (lt_s (lt_s (lt_s (lt_s (lt_s (lt_s (lt_s (lt_s (lt_s (lt_s (lt_s (lt_s (lt_s (lt_s (lt_s (lt_s (lt_s (lt_s (lt_s (lt_s (lt_s (lt_s (lt_s (lt_s (lt_s (lt_s (lt_s (lt_s (lt_s (zCls_90 hst) (zCl_90 hst)) (zCl_91 hst)) (zCl_92 hst)) (zCl_93 hst)) (zCl_94 hst)) (zCl_95 hst)) (zCl_96 hst)) (zCl_97 hst)) (zCl_98 hst)) (zCl_99 hst)) (zCl_100 hst)) (zCl_101 hst)) (zCl_102 hst)) (zCl_103 hst)) (zCl_104 hst)) (zCl_105 hst)) (zCl_106 hst)) (zCl_107 hst)) (zCl_108 hst)) (zCl_109 hst)) (zCl_110 hst)) (zCl_111 hst)) (zCl_112 hst)) (zCl_113 hst)) (zCl_114 hst)) (zCl_115 hst)) (zCl_116 hst)) (zCl_117 hst)) (zCl_118 hst)) (zCl_119 hst))
theorem zCls_150 (hst : l.stackTraces = false) : ∀ y, y < 150 → zClAt (zMet l D vwCl dA RX5 zSt zNw zNc zMt) y := (lt_s (lt_s (lt_s (lt_s (lt_s (lt_s (lt_s (lt_s (lt_s (lt_s (lt_s (lt_s (lt_s (lt_s (lt_s (lt_s (lt_s (lt_s (lt_s (lt_s (lt_s (lt_s (lt_s (lt_s (lt_s (lt_s (lt_s (lt_s (lt_s (lt_s (zCls_120 hst) (zCl_120 hst)) (zCl_121 hst)) (zCl_122 hst)) (zCl_123 hst)) (zCl_124 hst)) (zCl_125 hst)) (zCl_126 hst)) (zCl_127 hst)) (zCl_128 hst)) (zCl_129 hst)) (zCl_130 hst)) (zCl_131 hst)) (zCl_132 hst)) (zCl_133 hst)) (zCl_134 hst)) (zCl_135 hst)) (zCl_136 hst)) (zCl_137 hst)) (zCl_138 hst)) (zCl_139 hst)) (zCl_140 hst)) (zCl_141 hst)) (zCl_142 hst)) (zCl_143 hst)) (zCl_144 hst)) (zCl_145 hst)) (zCl_146 hst)) (zCl_147 hst)) (zCl_148 hst)) (zCl_149 hst))
theorem zCls_180 (hst : l.stackTraces = false) : ∀ y, y < 180 → zClAt (zMet l D vwCl dA RX5 zSt zNw zNc zMt) y := (lt_s (lt_s (lt_s (lt_s (lt_s (lt_s (lt_s (lt_s (lt_s (lt_s (lt_s (lt_s (lt_s (lt_s (lt_s (lt_s (lt_s (lt_s (lt_s (lt_s (lt_s (lt_s (lt_s (lt_s (lt_s (lt_s (lt_s (lt_s (lt_s (lt_s (zCls_150 hst) (zCl_150 hst)) (zCl_151 hst)) (zCl_152 hst)) (zCl_153 hst)) (zCl_154 hst)) (zCl_155 hst)) (zCl_156 hst)) (zCl_157 hst)) (zCl_158 hst)) (zCl_159 hst)) (zCl_160 hst)) (zCl_161 hst)) (zCl_162 hst)) (zCl_163 hst)) (zCl_164 hst)) (zCl_165 hst)) (zCl_166 hst)) (zCl_167 hst)) (zCl_168 hst)) (zCl_169 hst)) (zCl_170 hst)) (zCl_171 hst)) (zCl_172 hst)) (zCl_173 hst)) (zCl_174 hst)) (zCl_175 hst)) (zCl_176 hst)) (zCl_177 hst)) (zCl_178 hst)) (zCl_179 hst))
theorem zCls_210 (hst : l.stackTraces = false) : ∀ y, y < 210 → zClAt (zMet l D vwCl dA RX5 zSt zNw zNc zMt) y := (lt_s (lt_s (lt_s (lt_s (lt_s (lt_s (lt_s (lt_s (lt_s (lt_s (lt_s (lt_s (lt_s (lt_s (lt_s (lt_s (lt_s (lt_s (lt_s (lt_s (lt_s (lt_s (lt_s (lt_s (lt_s (lt_s (lt_s (lt_s (lt_s (lt_s (zCls_180 hst) (zCl_180 hst)) (zCl_181 hst)) (zCl_182 hst)) (zCl_183 hst)) (zCl_184 hst)) (zCl_185 hst)) (zCl_186 hst)) (zCl_187 hst)) (zCl_188 hst)) (zCl_189 hst)) (zCl_190 hst)) (zCl_191 hst)) (zCl_192 hst)) (zCl_193 hst)) (zCl_194 hst)) (zCl_195 hst)) (zCl_196 hst)) (zCl_197 hst)) (zCl_198 hst)) (zCl_199 hst)) (zCl_200 hst)) (zCl_201 hst)) (zCl_202 hst)) (zCl_203 hst)) (zCl_204 hst)) (zCl_205 hst)) (zCl_206 hst)) (zCl_207 hst)) (zCl_208 hst)) (zCl_209 hst))
theorem zCls_215 (hst : l.stackTraces = false) : ∀ y, y < 215 → zClAt (zMet l D vwCl dA RX5 zSt zNw zNc zMt) y := (lt_s (lt_s (lt_s (lt_s (lt_s (zCls_210 hst) (zCl_210 hst)) (zCl_211 hst)) (zCl_212 hst)) (zCl_213 hst)) (zCl_214 hst))
theorem zCld_met (hst : l.stackTraces = false) : zCld 215 zTT (zMet l D vwCl dA RX5 zSt zNw zNc zMt) := ⟨fun _ _ _ _ _ _ hQ => zMet.mono hQ, fun y hy => zCls_215 hst y hy⟩
end ZCl
