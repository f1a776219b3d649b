/-! the methods by number; their tables -/
def zSt : List (String × Nat × String) := [(RX6, 43, "content is out of range"), (RX6, 54, "the base is full, or a draft differs from it"), (RX6, 71, "no such draft or position"), (RX6, 93, "the draft is full, or no number is left"), (RX6, 115, "no such draft"), (RX6, 130, "no such draft or block of the base"), (RX6, 150, "no such block of the merged text"), (RX6, 158, "no such conflict"), (RX6, 166, "neither a draft nor NONE"), (RX6, 178, "an open conflict, or too many blocks"), (RX6, 191, "code is out of range"), (RX6, 196, "the buffer is full"), (RX6, 211, "the buffer is not a complete command text"), (RX6, 217, "no state is saved")]
def zNw : List Cond := [.methodLinkNest RX6 25 yX4_init "DraftMerge", .methodLinkNest RX4 22 yX2_init "DraftMerge", .methodLinkNest RX6 32 yX1_init "DraftMerge", .methodLinkNest RX0 26 yX6_cell "DraftMerge", .methodLinkNest RX2 40 yX6_setCell "DraftMerge", .methodLinkNest RX2 18 yX6_cell "DraftMerge", .methodLinkNest RX4 98 yX6_setCell "DraftMerge", .methodLinkNest RX5 77 yX6_cell "DraftMerge", .methodLinkNest RX4 47 yX6_cell "DraftMerge", .methodLinkNest RX0 40 yX6_setCell "DraftMerge", .methodLinkNest RX1 35 yX6_cell "DraftMerge", .castable "java/lang/IllegalArgumentException" "java/lang/IllegalArgumentException", .declares ⟨"java/lang/RuntimeException","<init>","()V"⟩, .declares ⟨"java/lang/RuntimeException","<init>","(Ljava/lang/String;)V"⟩, .declares ⟨"java/lang/Exception","<init>","()V"⟩, .declares ⟨"java/lang/Exception","<init>","(Ljava/lang/String;)V"⟩, .declares ⟨"java/lang/Throwable","<init>","()V"⟩, .declares ⟨"java/lang/Throwable","<init>","(Ljava/lang/String;)V"⟩, .castable "java/lang/IllegalStateException" "java/lang/IllegalStateException", .methodLinkNest RX5 84 yX6_setCell "DraftMerge", .castable "java/lang/IndexOutOfBoundsException" "java/lang/IndexOutOfBoundsException", .methodLinkNest RX1 39 yX6_setCell "DraftMerge"]
theorem zNw_ok : zNw.all zst = true := by decide +kernel
def zNc : List (String × String) := [("java/lang/IllegalStateException", "java/lang/IllegalArgumentException"), ("java/lang/IllegalArgumentException", "java/lang/IndexOutOfBoundsException"), ("java/lang/IllegalStateException", "java/lang/IndexOutOfBoundsException")]
def zMTl : List (MethodName × List Cond × Room) := [
  (yX0_init, .code yX0_init cX0_init 3 none :: lw_all, ({ frames := 1, cells := 0, slots := 0, locals := 20 } : Room)),
  (yX0_holds, .code yX0_holds cX0_holds 2 (some .boolean) :: lw_all, ({ frames := 0, cells := 0, slots := 0, locals := 0 } : Room)),
  (yX0_isFull, .code yX0_isFull cX0_isFull 1 (some .boolean) :: lw_all, ({ frames := 0, cells := 0, slots := 0, locals := 0 } : Room)),
  (yX0_numberAt, .code yX0_numberAt cX0_numberAt 2 (some .int) :: lw_all, ({ frames := 1, cells := 0, slots := 0, locals := 21 } : Room)),
  (yX0_contentAt, .code yX0_contentAt cX0_contentAt 2 (some .int) :: lw_all, ({ frames := 1, cells := 0, slots := 0, locals := 21 } : Room)),
  (yX0_find, .code yX0_find cX0_find 3 (some .int) :: lw_all, ({ frames := 2, cells := 0, slots := 0, locals := 42 } : Room)),
  (yX0_contentOf, .code yX0_contentOf cX0_contentOf 2 (some .int) :: lw_all, ({ frames := 3, cells := 0, slots := 0, locals := 64 } : Room)),
  (yX0_replaceContent, .code yX0_replaceContent cX0_replaceContent 4 (some .int) :: lw_all, ({ frames := 2, cells := 0, slots := 0, locals := 42 } : Room)),
  (yX0_putIn, .code yX0_putIn cX0_putIn 5 none :: lw_all, ({ frames := 1, cells := 0, slots := 0, locals := 22 } : Room)),
  (yX0_putLast, .code yX0_putLast cX0_putLast 3 none :: lw_all, ({ frames := 2, cells := 0, slots := 0, locals := 46 } : Room)),
  (yX0_takeOut, .code yX0_takeOut cX0_takeOut 4 (some .int) :: lw_all, ({ frames := 2, cells := 0, slots := 0, locals := 42 } : Room)),
  (yX0_shift, .code yX0_shift cX0_shift 5 (some .int) :: lw_all, ({ frames := 3, cells := 0, slots := 0, locals := 65 } : Room)),
  (yX0_clear, .code yX0_clear cX0_clear 1 none :: lw_all, ({ frames := 0, cells := 0, slots := 0, locals := 0 } : Room)),
  (yX0_copyFrom, .code yX0_copyFrom cX0_copyFrom 3 none :: lw_all, ({ frames := 2, cells := 0, slots := 0, locals := 42 } : Room)),
  (yX0_isLike, .code yX0_isLike cX0_isLike 3 (some .boolean) :: lw_all, ({ frames := 2, cells := 0, slots := 0, locals := 42 } : Room)),
  (yX0_countShared, .code yX0_countShared cX0_countShared 6 (some .int) :: lw_all, ({ frames := 3, cells := 0, slots := 0, locals := 64 } : Room)),
  (yX1_init, .code yX1_init cX1_init 1 none :: lw_all, ({ frames := 1, cells := 1, slots := 60, locals := 20 } : Room)),
  (yX1_codeAt, .code yX1_codeAt cX1_codeAt 2 (some .int) :: lw_all, ({ frames := 1, cells := 0, slots := 0, locals := 21 } : Room)),
  (yX1_putLast, .code yX1_putLast cX1_putLast 2 (some .int) :: lw_all, ({ frames := 1, cells := 0, slots := 0, locals := 22 } : Room)),
  (yX1_forget, .code yX1_forget cX1_forget 2 (some .int) :: lw_all, ({ frames := 0, cells := 0, slots := 0, locals := 0 } : Room)),
  (yX1_findError, .code yX1_findError cX1_findError 2 (some .int) :: lw_all, ({ frames := 3, cells := 0, slots := 0, locals := 66 } : Room)),
  (yX1_isComplete, .code yX1_isComplete cX1_isComplete 1 (some .boolean) :: lw_all, ({ frames := 4, cells := 0, slots := 0, locals := 87 } : Room)),
  (yX1_beginReading, .code yX1_beginReading cX1_beginReading 1 none :: lw_all, ({ frames := 0, cells := 0, slots := 0, locals := 0 } : Room)),
  (yX1_commandIsWhole, .code yX1_commandIsWhole cX1_commandIsWhole 1 (some .boolean) :: lw_all, ({ frames := 0, cells := 0, slots := 0, locals := 0 } : Room)),
  (yX1_take, .code yX1_take cX1_take 2 (some .boolean) :: lw_all, ({ frames := 2, cells := 0, slots := 0, locals := 45 } : Room)),
  (yX1_takeDraft, .code yX1_takeDraft cX1_takeDraft 2 (some .boolean) :: lw_all, ({ frames := 0, cells := 0, slots := 0, locals := 0 } : Room)),
  (yX1_takeKind, .code yX1_takeKind cX1_takeKind 2 (some .boolean) :: lw_all, ({ frames := 0, cells := 0, slots := 0, locals := 0 } : Room)),
  (yX1_takeFirst, .code yX1_takeFirst cX1_takeFirst 3 (some .boolean) :: lw_all, ({ frames := 1, cells := 0, slots := 0, locals := 23 } : Room)),
  (yX1_takeSecond, .code yX1_takeSecond cX1_takeSecond 3 (some .boolean) :: lw_all, ({ frames := 1, cells := 0, slots := 0, locals := 23 } : Room)),
  (yX1_withDigit, .code yX1_withDigit cX1_withDigit 4 (some .int) :: lw_all, ({ frames := 0, cells := 0, slots := 0, locals := 0 } : Room)),
  (yX2_init, .code yX2_init cX2_init 1 none :: lw_all, ({ frames := 1, cells := 2, slots := 25, locals := 20 } : Room)),
  (yX2_of, .code yX2_of cX2_of 2 (some .int) :: lw_all, ({ frames := 1, cells := 0, slots := 0, locals := 21 } : Room)),
  (yX2_edits, .code yX2_edits cX2_edits 2 (some .boolean) :: lw_all, ({ frames := 2, cells := 0, slots := 0, locals := 42 } : Room)),
  (yX2_moved, .code yX2_moved cX2_moved 2 (some .boolean) :: lw_all, ({ frames := 2, cells := 0, slots := 0, locals := 42 } : Room)),
  (yX2_removes, .code yX2_removes cX2_removes 2 (some .boolean) :: lw_all, ({ frames := 2, cells := 0, slots := 0, locals := 42 } : Room)),
  (yX2_countMoved, .code yX2_countMoved cX2_countMoved 4 (some .int) :: lw_all, ({ frames := 3, cells := 0, slots := 0, locals := 63 } : Room)),
  (yX2_compare, .code yX2_compare cX2_compare 4 none :: lw_all, ({ frames := 4, cells := 0, slots := 0, locals := 96 } : Room)),
  (yX2_changeUnlessKept, .code yX2_changeUnlessKept cX2_changeUnlessKept 4 (some .int) :: lw_all, ({ frames := 3, cells := 0, slots := 0, locals := 64 } : Room)),
  (yX2_measureAscending, .code yX2_measureAscending cX2_measureAscending 6 (some .int) :: lw_all, ({ frames := 3, cells := 0, slots := 0, locals := 68 } : Room)),
  (yX2_lengthFrom, .code yX2_lengthFrom cX2_lengthFrom 7 (some .int) :: lw_all, ({ frames := 2, cells := 0, slots := 0, locals := 42 } : Room)),
  (yX2_markKept, .code yX2_markKept cX2_markKept 8 none :: lw_all, ({ frames := 3, cells := 0, slots := 0, locals := 69 } : Room)),
  (yX2_leastStart, .code yX2_leastStart cX2_leastStart 8 (some .int) :: lw_all, ({ frames := 2, cells := 0, slots := 0, locals := 42 } : Room)),
  (yX3_init, .code yX3_init cX3_init 2 none :: lw_all, ({ frames := 3, cells := 67, slots := 762, locals := 62 } : Room)),
  (yX3_keep, .code yX3_keep cX3_keep 2 none :: lw_all, ({ frames := 5, cells := 0, slots := 0, locals := 107 } : Room)),
  (yX3_restoreLast, .code yX3_restoreLast cX3_restoreLast 2 (some .int) :: lw_all, ({ frames := 5, cells := 0, slots := 0, locals := 107 } : Room)),
  (yX3_slot, .code yX3_slot cX3_slot 2 (some (.object "DraftMerge$State")) :: lw_all, ({ frames := 0, cells := 0, slots := 0, locals := 0 } : Room)),
  (yX3_copy, .code yX3_copy cX3_copy 2 none :: lw_all, ({ frames := 4, cells := 0, slots := 0, locals := 86 } : Room)),
  (yX4_init, .code yX4_init cX4_init 1 none :: lw_all, ({ frames := 2, cells := 13, slots := 197, locals := 42 } : Room)),
  (yX4_changesOf, .code yX4_changesOf cX4_changesOf 2 (some (.object "DraftMerge$DraftChanges")) :: lw_all, ({ frames := 0, cells := 0, slots := 0, locals := 0 } : Room)),
  (yX4_hasConflict, .code yX4_hasConflict cX4_hasConflict 2 (some .boolean) :: lw_all, ({ frames := 0, cells := 0, slots := 0, locals := 0 } : Room)),
  (yX4_blockOfConflict, .code yX4_blockOfConflict cX4_blockOfConflict 2 (some .int) :: lw_all, ({ frames := 1, cells := 0, slots := 0, locals := 21 } : Room)),
  (yX4_kindOfConflict, .code yX4_kindOfConflict cX4_kindOfConflict 2 (some .int) :: lw_all, ({ frames := 1, cells := 0, slots := 0, locals := 21 } : Room)),
  (yX4_countOpen, .code yX4_countOpen cX4_countOpen 4 (some .int) :: lw_all, ({ frames := 2, cells := 0, slots := 0, locals := 43 } : Room)),
  (yX4_make, .code yX4_make cX4_make 3 none :: lw_all, ({ frames := 6, cells := 0, slots := 0, locals := 133 } : Room)),
  (yX4_decide, .code yX4_decide cX4_decide 5 none :: lw_all, ({ frames := 5, cells := 0, slots := 0, locals := 109 } : Room)),
  (yX4_decideRemoved, .code yX4_decideRemoved cX4_decideRemoved 5 none :: lw_all, ({ frames := 4, cells := 0, slots := 0, locals := 85 } : Room)),
  (yX4_contentFromBoth, .code yX4_contentFromBoth cX4_contentFromBoth 5 (some .int) :: lw_all, ({ frames := 4, cells := 0, slots := 0, locals := 85 } : Room)),
  (yX4_placeFromBoth, .code yX4_placeFromBoth cX4_placeFromBoth 5 (some .int) :: lw_all, ({ frames := 4, cells := 0, slots := 0, locals := 85 } : Room)),
  (yX4_numberBefore, .code yX4_numberBefore cX4_numberBefore 2 (some .int) :: lw_all, ({ frames := 3, cells := 0, slots := 0, locals := 64 } : Room)),
  (yX4_addConflict, .code yX4_addConflict cX4_addConflict 3 none :: lw_all, ({ frames := 1, cells := 0, slots := 0, locals := 22 } : Room)),
  (yX4_putBlocksOf, .code yX4_putBlocksOf cX4_putBlocksOf 6 none :: lw_all, ({ frames := 4, cells := 0, slots := 0, locals := 88 } : Room)),
  (yX4_placeBehind, .code yX4_placeBehind cX4_placeBehind 5 (some .int) :: lw_all, ({ frames := 3, cells := 0, slots := 0, locals := 64 } : Room)),
  (yX5_init, .code yX5_init cX5_init 1 none :: lw_all, ({ frames := 2, cells := 10, slots := 119, locals := 42 } : Room)),
  (yX5_draft, .code yX5_draft cX5_draft 2 (some (.object "DraftMerge$Blocks")) :: lw_all, ({ frames := 0, cells := 0, slots := 0, locals := 0 } : Room)),
  (yX5_baseCanGrow, .code yX5_baseCanGrow cX5_baseCanGrow 1 (some .boolean) :: lw_all, ({ frames := 3, cells := 0, slots := 0, locals := 64 } : Room)),
  (yX5_growBase, .code yX5_growBase cX5_growBase 3 (some .int) :: lw_all, ({ frames := 3, cells := 0, slots := 0, locals := 68 } : Room)),
  (yX5_putNewBlock, .code yX5_putNewBlock cX5_putNewBlock 5 (some .int) :: lw_all, ({ frames := 2, cells := 0, slots := 0, locals := 46 } : Room)),
  (yX5_takeNumber, .code yX5_takeNumber cX5_takeNumber 2 (some .int) :: lw_all, ({ frames := 0, cells := 0, slots := 0, locals := 0 } : Room)),
  (yX5_choice, .code yX5_choice cX5_choice 3 (some .int) :: lw_all, ({ frames := 1, cells := 0, slots := 0, locals := 21 } : Room)),
  (yX5_choiceOrPreferred, .code yX5_choiceOrPreferred cX5_choiceOrPreferred 4 (some .int) :: lw_all, ({ frames := 2, cells := 0, slots := 0, locals := 43 } : Room)),
  (yX5_setChoice, .code yX5_setChoice cX5_setChoice 5 (some .int) :: lw_all, ({ frames := 2, cells := 0, slots := 0, locals := 43 } : Room)),
  (yX5_choiceIndex, .code yX5_choiceIndex cX5_choiceIndex 2 (some .int) :: lw_all, ({ frames := 0, cells := 0, slots := 0, locals := 0 } : Room)),
  (yX5_takeAsBase, .code yX5_takeAsBase cX5_takeAsBase 3 none :: lw_all, ({ frames := 3, cells := 0, slots := 0, locals := 68 } : Room)),
  (yX5_copyFrom, .code yX5_copyFrom cX5_copyFrom 3 none :: lw_all, ({ frames := 3, cells := 0, slots := 0, locals := 64 } : Room)),
  (yX6_init, .code yX6_init cX6_init 1 none :: lw_all, ({ frames := 4, cells := 95, slots := 1163, locals := 83 } : Room)),
  (yX6_addBase, .code yX6_addBase cX6_addBase 2 (some .int) :: lw_all, ({ frames := 6, cells := 1, slots := 6, locals := 128 } : Room)),
  (yX6_edit, .code yX6_edit cX6_edit 5 (some .int) :: lw_all, ({ frames := 6, cells := 1, slots := 6, locals := 128 } : Room)),
  (yX6_move, .code yX6_move cX6_move 4 (some .int) :: lw_all, ({ frames := 6, cells := 1, slots := 6, locals := 128 } : Room)),
  (yX6_insert, .code yX6_insert cX6_insert 5 (some .int) :: lw_all, ({ frames := 6, cells := 1, slots := 6, locals := 128 } : Room)),
  (yX6_remove, .code yX6_remove cX6_remove 3 (some .int) :: lw_all, ({ frames := 6, cells := 1, slots := 6, locals := 128 } : Room)),
  (yX6_baseSize, .code yX6_baseSize cX6_baseSize 1 (some .int) :: lw_all, ({ frames := 0, cells := 0, slots := 0, locals := 0 } : Room)),
  (yX6_size, .code yX6_size cX6_size 2 (some .int) :: lw_all, ({ frames := 6, cells := 1, slots := 6, locals := 82 } : Room)),
  (yX6_block, .code yX6_block cX6_block 3 (some .int) :: lw_all, ({ frames := 6, cells := 1, slots := 6, locals := 82 } : Room)),
  (yX6_content, .code yX6_content cX6_content 3 (some .int) :: lw_all, ({ frames := 6, cells := 1, slots := 6, locals := 82 } : Room)),
  (yX6_change, .code yX6_change cX6_change 3 (some .int) :: lw_all, ({ frames := 7, cells := 1, slots := 6, locals := 155 } : Room)),
  (yX6_moves, .code yX6_moves cX6_moves 2 (some .int) :: lw_all, ({ frames := 7, cells := 1, slots := 6, locals := 155 } : Room)),
  (yX6_mergedSize, .code yX6_mergedSize cX6_mergedSize 1 (some .int) :: lw_all, ({ frames := 7, cells := 0, slots := 0, locals := 155 } : Room)),
  (yX6_mergedBlock, .code yX6_mergedBlock cX6_mergedBlock 2 (some .int) :: lw_all, ({ frames := 7, cells := 1, slots := 6, locals := 155 } : Room)),
  (yX6_mergedContent, .code yX6_mergedContent cX6_mergedContent 2 (some .int) :: lw_all, ({ frames := 7, cells := 1, slots := 6, locals := 155 } : Room)),
  (yX6_conflicts, .code yX6_conflicts cX6_conflicts 1 (some .int) :: lw_all, ({ frames := 7, cells := 0, slots := 0, locals := 155 } : Room)),
  (yX6_conflictBlock, .code yX6_conflictBlock cX6_conflictBlock 2 (some .int) :: lw_all, ({ frames := 7, cells := 1, slots := 6, locals := 155 } : Room)),
  (yX6_conflictKind, .code yX6_conflictKind cX6_conflictKind 2 (some .int) :: lw_all, ({ frames := 7, cells := 1, slots := 6, locals := 155 } : Room)),
  (yX6_choose, .code yX6_choose cX6_choose 3 (some .int) :: lw_all, ({ frames := 7, cells := 1, slots := 6, locals := 155 } : Room)),
  (yX6_prefer, .code yX6_prefer cX6_prefer 3 (some .int) :: lw_all, ({ frames := 6, cells := 1, slots := 6, locals := 128 } : Room)),
  (yX6_open, .code yX6_open cX6_open 1 (some .int) :: lw_all, ({ frames := 7, cells := 0, slots := 0, locals := 155 } : Room)),
  (yX6_accept, .code yX6_accept cX6_accept 1 (some .int) :: lw_all, ({ frames := 7, cells := 1, slots := 6, locals := 155 } : Room)),
  (yX6_accepted, .code yX6_accepted cX6_accepted 1 (some .int) :: lw_all, ({ frames := 0, cells := 0, slots := 0, locals := 0 } : Room)),
  (yX6_similarity, .code yX6_similarity cX6_similarity 4 (some .double) :: lw_all, ({ frames := 7, cells := 1, slots := 6, locals := 155 } : Room)),
  (yX6_append, .code yX6_append cX6_append 2 (some .int) :: lw_all, ({ frames := 6, cells := 1, slots := 6, locals := 82 } : Room)),
  (yX6_clearText, .code yX6_clearText cX6_clearText 1 (some .int) :: lw_all, ({ frames := 1, cells := 0, slots := 0, locals := 21 } : Room)),
  (yX6_firstError, .code yX6_firstError cX6_firstError 1 (some .int) :: lw_all, ({ frames := 4, cells := 0, slots := 0, locals := 87 } : Room)),
  (yX6_run, .code yX6_run cX6_run 2 (some .int) :: lw_all, ({ frames := 6, cells := 1, slots := 6, locals := 135 } : Room)),
  (yX6_undo, .code yX6_undo cX6_undo 1 (some .int) :: lw_all, ({ frames := 6, cells := 1, slots := 6, locals := 128 } : Room)),
  (yX6_savedStates, .code yX6_savedStates cX6_savedStates 1 (some .int) :: lw_all, ({ frames := 0, cells := 0, slots := 0, locals := 0 } : Room)),
  (yX6_digest, .code yX6_digest cX6_digest 4 (some .long) :: lw_all, ({ frames := 7, cells := 0, slots := 0, locals := 155 } : Room)),
  (yX6_mixedWithBlocks, .code yX6_mixedWithBlocks cX6_mixedWithBlocks 6 (some .long) :: lw_all, ({ frames := 2, cells := 0, slots := 0, locals := 42 } : Room)),
  (yX6_mixed, .code yX6_mixed cX6_mixed 3 (some .long) :: lw_all, ({ frames := 0, cells := 0, slots := 0, locals := 0 } : Room)),
  (yX6_isDraft, .code yX6_isDraft cX6_isDraft 1 (some .boolean) :: lw_all, ({ frames := 0, cells := 0, slots := 0, locals := 0 } : Room)),
  (yX6_isContent, .code yX6_isContent cX6_isContent 1 (some .boolean) :: lw_all, ({ frames := 0, cells := 0, slots := 0, locals := 0 } : Room)),
  (yX6_hasPosition, .code yX6_hasPosition cX6_hasPosition 3 (some .boolean) :: lw_all, ({ frames := 1, cells := 0, slots := 0, locals := 21 } : Room)),
  (yX6_editFault, .code yX6_editFault cX6_editFault 4 (some .int) :: lw_all, ({ frames := 2, cells := 0, slots := 0, locals := 43 } : Room)),
  (yX6_moveFault, .code yX6_moveFault cX6_moveFault 4 (some .int) :: lw_all, ({ frames := 2, cells := 0, slots := 0, locals := 43 } : Room)),
  (yX6_insertFault, .code yX6_insertFault cX6_insertFault 4 (some .int) :: lw_all, ({ frames := 1, cells := 0, slots := 0, locals := 21 } : Room)),
  (yX6_removeFault, .code yX6_removeFault cX6_removeFault 3 (some .int) :: lw_all, ({ frames := 2, cells := 0, slots := 0, locals := 43 } : Room)),
  (yX6_executeText, .code yX6_executeText cX6_executeText 4 (some .int) :: lw_all, ({ frames := 5, cells := 0, slots := 0, locals := 112 } : Room)),
  (yX6_executeCommand, .code yX6_executeCommand cX6_executeCommand 4 (some .boolean) :: lw_all, ({ frames := 4, cells := 0, slots := 0, locals := 89 } : Room)),
  (yX6_cell, .code yX6_cell cX6_cell 2 (some .int) :: lw_all, ({ frames := 0, cells := 0, slots := 0, locals := 0 } : Room)),
  (yX6_setCell, .code yX6_setCell cX6_setCell 3 none :: lw_all, ({ frames := 0, cells := 0, slots := 0, locals := 0 } : Room)),
  (yX7_init, .code yX7_init cX7_init 1 none :: lw_all, ({ frames := 1, cells := 11, slots := 958, locals := 20 } : Room)),
  (yX7_thrown, .code yX7_thrown cX7_thrown 1 (some .int) :: lw_all, ({ frames := 0, cells := 0, slots := 0, locals := 0 } : Room)),
  (yX7_refused, .code yX7_refused cX7_refused 2 (some .boolean) :: lw_all, ({ frames := 0, cells := 0, slots := 0, locals := 0 } : Room)),
  (yX7_in, .code yX7_in cX7_in 3 (some .boolean) :: lw_all, ({ frames := 0, cells := 0, slots := 0, locals := 0 } : Room)),
  (yX7_saves, .code yX7_saves cX7_saves 2 none :: lw_all, ({ frames := 0, cells := 0, slots := 0, locals := 0 } : Room)),
  (yX7_isDraft, .code yX7_isDraft cX7_isDraft 1 (some .boolean) :: lw_all, ({ frames := 1, cells := 0, slots := 0, locals := 22 } : Room)),
  (yX7_at, .code yX7_at cX7_at 2 (some .int) :: lw_all, ({ frames := 0, cells := 0, slots := 0, locals := 0 } : Room)),
  (yX7_sizeOf, .code yX7_sizeOf cX7_sizeOf 2 (some .int) :: lw_all, ({ frames := 1, cells := 0, slots := 0, locals := 21 } : Room)),
  (yX7_numberAt, .code yX7_numberAt cX7_numberAt 3 (some .int) :: lw_all, ({ frames := 1, cells := 0, slots := 0, locals := 21 } : Room)),
  (yX7_insideAt, .code yX7_insideAt cX7_insideAt 3 (some .int) :: lw_all, ({ frames := 1, cells := 0, slots := 0, locals := 21 } : Room)),
  (yX7_isThere, .code yX7_isThere cX7_isThere 3 (some .boolean) :: lw_all, ({ frames := 2, cells := 0, slots := 0, locals := 42 } : Room)),
  (yX7_placeOf, .code yX7_placeOf cX7_placeOf 4 (some .int) :: lw_all, ({ frames := 2, cells := 0, slots := 0, locals := 43 } : Room)),
  (yX7_has, .code yX7_has cX7_has 3 (some .boolean) :: lw_all, ({ frames := 3, cells := 0, slots := 0, locals := 66 } : Room)),
  (yX7_contentIn, .code yX7_contentIn cX7_contentIn 3 (some .int) :: lw_all, ({ frames := 3, cells := 0, slots := 0, locals := 66 } : Room)),
  (yX7_doesEdit, .code yX7_doesEdit cX7_doesEdit 3 (some .boolean) :: lw_all, ({ frames := 4, cells := 0, slots := 0, locals := 88 } : Room)),
  (yX7_puts, .code yX7_puts cX7_puts 6 none :: lw_all, ({ frames := 2, cells := 0, slots := 0, locals := 43 } : Room)),
  (yX7_takes, .code yX7_takes cX7_takes 4 none :: lw_all, ({ frames := 2, cells := 0, slots := 0, locals := 42 } : Room)),
  (yX7_isChanged, .code yX7_isChanged cX7_isChanged 4 (some .boolean) :: lw_all, ({ frames := 2, cells := 0, slots := 0, locals := 43 } : Room)),
  (yX7_addBase, .code yX7_addBase cX7_addBase 3 (some .int) :: lw_all, ({ frames := 3, cells := 0, slots := 0, locals := 68 } : Room)),
  (yX7_barEdit, .code yX7_barEdit cX7_barEdit 4 (some .int) :: lw_all, ({ frames := 3, cells := 0, slots := 0, locals := 64 } : Room)),
  (yX7_barMove, .code yX7_barMove cX7_barMove 4 (some .int) :: lw_all, ({ frames := 3, cells := 0, slots := 0, locals := 64 } : Room)),
  (yX7_barInsert, .code yX7_barInsert cX7_barInsert 4 (some .int) :: lw_all, ({ frames := 2, cells := 0, slots := 0, locals := 42 } : Room)),
  (yX7_barRemove, .code yX7_barRemove cX7_barRemove 3 (some .int) :: lw_all, ({ frames := 3, cells := 0, slots := 0, locals := 64 } : Room)),
  (yX7_edits, .code yX7_edits cX7_edits 5 (some .int) :: lw_all, ({ frames := 2, cells := 0, slots := 0, locals := 43 } : Room)),
  (yX7_shifts, .code yX7_shifts cX7_shifts 6 (some .int) :: lw_all, ({ frames := 3, cells := 0, slots := 0, locals := 68 } : Room)),
  (yX7_inserts, .code yX7_inserts cX7_inserts 5 (some .int) :: lw_all, ({ frames := 3, cells := 0, slots := 0, locals := 68 } : Room)),
  (yX7_removes, .code yX7_removes cX7_removes 4 (some .int) :: lw_all, ({ frames := 3, cells := 0, slots := 0, locals := 65 } : Room)),
  (yX7_edit, .code yX7_edit cX7_edit 4 (some .int) :: lw_all, ({ frames := 4, cells := 0, slots := 0, locals := 87 } : Room)),
  (yX7_move, .code yX7_move cX7_move 4 (some .int) :: lw_all, ({ frames := 4, cells := 0, slots := 0, locals := 93 } : Room)),
  (yX7_insert, .code yX7_insert cX7_insert 4 (some .int) :: lw_all, ({ frames := 4, cells := 0, slots := 0, locals := 92 } : Room)),
  (yX7_remove, .code yX7_remove cX7_remove 3 (some .int) :: lw_all, ({ frames := 4, cells := 0, slots := 0, locals := 88 } : Room)),
  (yX7_baseSize, .code yX7_baseSize cX7_baseSize 1 (some .int) :: lw_all, ({ frames := 0, cells := 0, slots := 0, locals := 0 } : Room)),
  (yX7_size, .code yX7_size cX7_size 2 (some .int) :: lw_all, ({ frames := 2, cells := 0, slots := 0, locals := 42 } : Room)),
  (yX7_block, .code yX7_block cX7_block 3 (some .int) :: lw_all, ({ frames := 3, cells := 0, slots := 0, locals := 64 } : Room)),
  (yX7_content, .code yX7_content cX7_content 3 (some .int) :: lw_all, ({ frames := 3, cells := 0, slots := 0, locals := 64 } : Room)),
  (yX7_keeps, .code yX7_keeps cX7_keeps 9 none :: lw_all, ({ frames := 2, cells := 0, slots := 0, locals := 43 } : Room)),
  (yX7_doesMove, .code yX7_doesMove cX7_doesMove 3 (some .boolean) :: lw_all, ({ frames := 4, cells := 0, slots := 0, locals := 88 } : Room)),
  (yX7_changeOf, .code yX7_changeOf cX7_changeOf 3 (some .int) :: lw_all, ({ frames := 5, cells := 0, slots := 0, locals := 110 } : Room)),
  (yX7_change, .code yX7_change cX7_change 3 (some .int) :: lw_all, ({ frames := 6, cells := 0, slots := 0, locals := 132 } : Room)),
  (yX7_moves, .code yX7_moves cX7_moves 4 (some .int) :: lw_all, ({ frames := 5, cells := 0, slots := 0, locals := 110 } : Room)),
  (yX7_chosen, .code yX7_chosen cX7_chosen 4 (some .int) :: lw_all, ({ frames := 0, cells := 0, slots := 0, locals := 0 } : Room)),
  (yX7_ahead, .code yX7_ahead cX7_ahead 4 (some .int) :: lw_all, ({ frames := 3, cells := 0, slots := 0, locals := 66 } : Room)),
  (yX7_judges, .code yX7_judges cX7_judges 5 none :: lw_all, ({ frames := 5, cells := 0, slots := 0, locals := 110 } : Room)),
  (yX7_mergedAt, .code yX7_mergedAt cX7_mergedAt 4 (some .int) :: lw_all, ({ frames := 0, cells := 0, slots := 0, locals := 0 } : Room)),
  (yX7_lays, .code yX7_lays cX7_lays 5 none :: lw_all, ({ frames := 0, cells := 0, slots := 0, locals := 0 } : Room)),
  (yX7_laysOf, .code yX7_laysOf cX7_laysOf 7 none :: lw_all, ({ frames := 2, cells := 0, slots := 0, locals := 43 } : Room)),
  (yX7_merges, .code yX7_merges cX7_merges 2 none :: lw_all, ({ frames := 6, cells := 0, slots := 0, locals := 134 } : Room)),
  (yX7_mergedSize, .code yX7_mergedSize cX7_mergedSize 1 (some .int) :: lw_all, ({ frames := 7, cells := 0, slots := 0, locals := 155 } : Room)),
  (yX7_mergedBlock, .code yX7_mergedBlock cX7_mergedBlock 2 (some .int) :: lw_all, ({ frames := 7, cells := 0, slots := 0, locals := 155 } : Room)),
  (yX7_mergedContent, .code yX7_mergedContent cX7_mergedContent 2 (some .int) :: lw_all, ({ frames := 7, cells := 0, slots := 0, locals := 155 } : Room)),
  (yX7_conflicts, .code yX7_conflicts cX7_conflicts 1 (some .int) :: lw_all, ({ frames := 7, cells := 0, slots := 0, locals := 155 } : Room)),
  (yX7_conflictBlock, .code yX7_conflictBlock cX7_conflictBlock 2 (some .int) :: lw_all, ({ frames := 7, cells := 0, slots := 0, locals := 155 } : Room)),
  (yX7_conflictKind, .code yX7_conflictKind cX7_conflictKind 2 (some .int) :: lw_all, ({ frames := 7, cells := 0, slots := 0, locals := 155 } : Room)),
  (yX7_choose, .code yX7_choose cX7_choose 5 (some .int) :: lw_all, ({ frames := 7, cells := 0, slots := 0, locals := 155 } : Room)),
  (yX7_prefer, .code yX7_prefer cX7_prefer 3 (some .int) :: lw_all, ({ frames := 2, cells := 0, slots := 0, locals := 42 } : Room)),
  (yX7_openOnes, .code yX7_openOnes cX7_openOnes 3 (some .int) :: lw_all, ({ frames := 0, cells := 0, slots := 0, locals := 0 } : Room)),
  (yX7_open, .code yX7_open cX7_open 1 (some .int) :: lw_all, ({ frames := 7, cells := 0, slots := 0, locals := 155 } : Room)),
  (yX7_accept, .code yX7_accept cX7_accept 3 (some .int) :: lw_all, ({ frames := 7, cells := 0, slots := 0, locals := 155 } : Room)),
  (yX7_accepted, .code yX7_accepted cX7_accepted 1 (some .int) :: lw_all, ({ frames := 0, cells := 0, slots := 0, locals := 0 } : Room)),
  (yX7_similarity, .code yX7_similarity cX7_similarity 6 (some .double) :: lw_all, ({ frames := 7, cells := 0, slots := 0, locals := 155 } : Room)),
  (yX7_append, .code yX7_append cX7_append 2 (some .int) :: lw_all, ({ frames := 1, cells := 0, slots := 0, locals := 22 } : Room)),
  (yX7_clearText, .code yX7_clearText cX7_clearText 2 (some .int) :: lw_all, ({ frames := 0, cells := 0, slots := 0, locals := 0 } : Room)),
  (yX7_next, .code yX7_next cX7_next 1 (some .int) :: lw_all, ({ frames := 0, cells := 0, slots := 0, locals := 0 } : Room)),
  (yX7_sign, .code yX7_sign cX7_sign 2 none :: lw_all, ({ frames := 1, cells := 0, slots := 0, locals := 20 } : Room)),
  (yX7_digit, .code yX7_digit cX7_digit 3 (some .int) :: lw_all, ({ frames := 1, cells := 0, slots := 0, locals := 22 } : Room)),
  (yX7_number, .code yX7_number cX7_number 4 (some .int) :: lw_all, ({ frames := 2, cells := 0, slots := 0, locals := 44 } : Room)),
  (yX7_command, .code yX7_command cX7_command 1 none :: lw_all, ({ frames := 3, cells := 0, slots := 0, locals := 67 } : Room)),
  (yX7_isWhole, .code yX7_isWhole cX7_isWhole 2 (some .boolean) :: lw_all, ({ frames := 4, cells := 0, slots := 0, locals := 87 } : Room)),
  (yX7_firstError, .code yX7_firstError cX7_firstError 2 (some .int) :: lw_all, ({ frames := 5, cells := 0, slots := 0, locals := 108 } : Room)),
  (yX7_bars, .code yX7_bars cX7_bars 1 (some .int) :: lw_all, ({ frames := 4, cells := 0, slots := 0, locals := 87 } : Room)),
  (yX7_does, .code yX7_does cX7_does 1 (some .int) :: lw_all, ({ frames := 4, cells := 0, slots := 0, locals := 93 } : Room)),
  (yX7_run, .code yX7_run cX7_run 4 (some .int) :: lw_all, ({ frames := 5, cells := 0, slots := 0, locals := 113 } : Room)),
  (yX7_undo, .code yX7_undo cX7_undo 2 (some .int) :: lw_all, ({ frames := 1, cells := 0, slots := 0, locals := 21 } : Room)),
  (yX7_savedStates, .code yX7_savedStates cX7_savedStates 1 (some .int) :: lw_all, ({ frames := 0, cells := 0, slots := 0, locals := 0 } : Room)),
  (yX7_digest, .code yX7_digest cX7_digest 5 (some .long) :: lw_all, ({ frames := 7, cells := 0, slots := 0, locals := 155 } : Room)),
  (yJA_fill, .code yJA_fill cJA_fill 4 none :: lw_all, ({ frames := 0, cells := 0, slots := 0, locals := 0 } : Room)),
  (yL_addBase, .codeWith yL_addBase cL_addBase 4 (some .int) [(0, 9, 12, 13), (0, 9, 15, 15)] :: lw_all, ({ frames := 7, cells := 1, slots := 6, locals := 149 } : Room)),
  (yL_edit, .codeWith yL_edit cL_edit 6 (some .int) [(0, 12, 15, 21), (0, 12, 19, 13)] :: lw_all, ({ frames := 7, cells := 1, slots := 6, locals := 152 } : Room)),
  (yL_move, .codeWith yL_move cL_move 6 (some .int) [(0, 12, 15, 21)] :: lw_all, ({ frames := 7, cells := 1, slots := 6, locals := 151 } : Room)),
  (yL_insert, .codeWith yL_insert cL_insert 6 (some .int) [(0, 12, 15, 21), (0, 12, 19, 13), (0, 12, 23, 15)] :: lw_all, ({ frames := 7, cells := 1, slots := 6, locals := 152 } : Room)),
  (yL_remove, .codeWith yL_remove cL_remove 5 (some .int) [(0, 10, 13, 21)] :: lw_all, ({ frames := 7, cells := 1, slots := 6, locals := 150 } : Room)),
  (yL_size, .codeWith yL_size cL_size 4 (some .int) [(0, 9, 12, 21)] :: lw_all, ({ frames := 7, cells := 1, slots := 6, locals := 103 } : Room)),
  (yL_block, .codeWith yL_block cL_block 5 (some .int) [(0, 10, 13, 21)] :: lw_all, ({ frames := 7, cells := 1, slots := 6, locals := 104 } : Room)),
  (yL_content, .codeWith yL_content cL_content 5 (some .int) [(0, 10, 13, 21)] :: lw_all, ({ frames := 7, cells := 1, slots := 6, locals := 104 } : Room)),
  (yL_change, .codeWith yL_change cL_change 5 (some .int) [(0, 10, 13, 21)] :: lw_all, ({ frames := 8, cells := 1, slots := 6, locals := 177 } : Room)),
  (yL_moves, .codeWith yL_moves cL_moves 4 (some .int) [(0, 9, 12, 21)] :: lw_all, ({ frames := 8, cells := 1, slots := 6, locals := 176 } : Room)),
  (yL_mergedBlock, .codeWith yL_mergedBlock cL_mergedBlock 4 (some .int) [(0, 9, 12, 21)] :: lw_all, ({ frames := 8, cells := 1, slots := 6, locals := 176 } : Room)),
  (yL_mergedContent, .codeWith yL_mergedContent cL_mergedContent 4 (some .int) [(0, 9, 12, 21)] :: lw_all, ({ frames := 8, cells := 1, slots := 6, locals := 176 } : Room)),
  (yL_conflictBlock, .codeWith yL_conflictBlock cL_conflictBlock 4 (some .int) [(0, 9, 12, 21)] :: lw_all, ({ frames := 8, cells := 1, slots := 6, locals := 176 } : Room)),
  (yL_conflictKind, .codeWith yL_conflictKind cL_conflictKind 4 (some .int) [(0, 9, 12, 21)] :: lw_all, ({ frames := 8, cells := 1, slots := 6, locals := 176 } : Room)),
  (yL_choose, .codeWith yL_choose cL_choose 5 (some .int) [(0, 10, 13, 21), (0, 10, 17, 13)] :: lw_all, ({ frames := 8, cells := 1, slots := 6, locals := 177 } : Room)),
  (yL_prefer, .codeWith yL_prefer cL_prefer 4 (some .int) [(0, 9, 12, 21)] :: lw_all, ({ frames := 7, cells := 1, slots := 6, locals := 150 } : Room)),
  (yL_accept, .codeWith yL_accept cL_accept 3 (some .int) [(0, 8, 11, 15)] :: lw_all, ({ frames := 8, cells := 1, slots := 6, locals := 175 } : Room)),
  (yL_similarity, .codeWith yL_similarity cL_similarity 4 (some .int) [(0, 8, 11, 21)] :: lw_all, ({ frames := 8, cells := 1, slots := 6, locals := 178 } : Room)),
  (yL_append, .codeWith yL_append cL_append 4 (some .int) [(0, 9, 12, 13), (0, 9, 15, 15)] :: lw_all, ({ frames := 7, cells := 1, slots := 6, locals := 103 } : Room)),
  (yL_run, .codeWith yL_run cL_run 3 (some .int) [(0, 8, 11, 13)] :: lw_all, ({ frames := 7, cells := 1, slots := 6, locals := 156 } : Room)),
  (yL_undo, .codeWith yL_undo cL_undo 3 (some .int) [(0, 8, 11, 15)] :: lw_all, ({ frames := 7, cells := 1, slots := 6, locals := 148 } : Room))]
def zMt : Nat → MethodName × List Cond × Room := fun k => zMTl.getD k (yL_law, [], { frames := 0, cells := 0, slots := 0, locals := 0 })
theorem zcal_0 : zcal zMt lw_all 0 cX0_init 3 none 2 := ⟨rfl, lw_good wm_586, ⟨by decide, by decide, by decide +kernel⟩, wm_121⟩
theorem zcal_1 : zcal zMt lw_all 1 cX0_holds 2 (some .boolean) 1 := ⟨rfl, lw_good wm_587, ⟨by decide, by decide, by decide +kernel⟩, wm_121⟩
theorem zcal_2 : zcal zMt lw_all 2 cX0_isFull 1 (some .boolean) 0 := ⟨rfl, lw_good wm_588, ⟨by decide, by decide, by decide +kernel⟩, wm_121⟩
theorem zcal_3 : zcal zMt lw_all 3 cX0_numberAt 2 (some .int) 1 := ⟨rfl, lw_good wm_589, ⟨by decide, by decide, by decide +kernel⟩, wm_121⟩
theorem zcal_4 : zcal zMt lw_all 4 cX0_contentAt 2 (some .int) 1 := ⟨rfl, lw_good wm_590, ⟨by decide, by decide, by decide +kernel⟩, wm_121⟩
theorem zcal_5 : zcal zMt lw_all 5 cX0_find 3 (some .int) 1 := ⟨rfl, lw_good wm_591, ⟨by decide, by decide, by decide +kernel⟩, wm_121⟩
theorem zcal_6 : zcal zMt lw_all 6 cX0_contentOf 2 (some .int) 1 := ⟨rfl, lw_good wm_592, ⟨by decide, by decide, by decide +kernel⟩, wm_121⟩
theorem zcal_7 : zcal zMt lw_all 7 cX0_replaceContent 4 (some .int) 2 := ⟨rfl, lw_good wm_593, ⟨by decide, by decide, by decide +kernel⟩, wm_121⟩
theorem zcal_8 : zcal zMt lw_all 8 cX0_putIn 5 none 3 := ⟨rfl, lw_good wm_594, ⟨by decide, by decide, by decide +kernel⟩, wm_121⟩
theorem zcal_9 : zcal zMt lw_all 9 cX0_putLast 3 none 2 := ⟨rfl, lw_good wm_595, ⟨by decide, by decide, by decide +kernel⟩, wm_121⟩
theorem zcal_10 : zcal zMt lw_all 10 cX0_takeOut 4 (some .int) 1 := ⟨rfl, lw_good wm_596, ⟨by decide, by decide, by decide +kernel⟩, wm_121⟩
theorem zcal_11 : zcal zMt lw_all 11 cX0_shift 5 (some .int) 2 := ⟨rfl, lw_good wm_597, ⟨by decide, by decide, by decide +kernel⟩, wm_121⟩
theorem zcal_12 : zcal zMt lw_all 12 cX0_clear 1 none 0 := ⟨rfl, lw_good wm_598, ⟨by decide, by decide, by decide +kernel⟩, wm_121⟩
theorem zcal_13 : zcal zMt lw_all 13 cX0_copyFrom 3 none 1 := ⟨rfl, lw_good wm_599, ⟨by decide, by decide, by decide +kernel⟩, wm_121⟩
theorem zcal_14 : zcal zMt lw_all 14 cX0_isLike 3 (some .boolean) 1 := ⟨rfl, lw_good wm_600, ⟨by decide, by decide, by decide +kernel⟩, wm_121⟩
theorem zcal_15 : zcal zMt lw_all 15 cX0_countShared 6 (some .int) 2 := ⟨rfl, lw_good wm_601, ⟨by decide, by decide, by decide +kernel⟩, wm_121⟩
theorem zcal_16 : zcal zMt lw_all 16 cX1_init 1 none 0 := ⟨rfl, lw_good wm_602, ⟨by decide, by decide, by decide +kernel⟩, wm_252⟩
theorem zcal_17 : zcal zMt lw_all 17 cX1_codeAt 2 (some .int) 1 := ⟨rfl, lw_good wm_603, ⟨by decide, by decide, by decide +kernel⟩, wm_252⟩
theorem zcal_18 : zcal zMt lw_all 18 cX1_putLast 2 (some .int) 1 := ⟨rfl, lw_good wm_604, ⟨by decide, by decide, by decide +kernel⟩, wm_252⟩
theorem zcal_19 : zcal zMt lw_all 19 cX1_forget 2 (some .int) 0 := ⟨rfl, lw_good wm_605, ⟨by decide, by decide, by decide +kernel⟩, wm_252⟩
theorem zcal_20 : zcal zMt lw_all 20 cX1_findError 2 (some .int) 0 := ⟨rfl, lw_good wm_606, ⟨by decide, by decide, by decide +kernel⟩, wm_252⟩
theorem zcal_21 : zcal zMt lw_all 21 cX1_isComplete 1 (some .boolean) 0 := ⟨rfl, lw_good wm_607, ⟨by decide, by decide, by decide +kernel⟩, wm_252⟩
theorem zcal_22 : zcal zMt lw_all 22 cX1_beginReading 1 none 0 := ⟨rfl, lw_good wm_608, ⟨by decide, by decide, by decide +kernel⟩, wm_252⟩
theorem zcal_23 : zcal zMt lw_all 23 cX1_commandIsWhole 1 (some .boolean) 0 := ⟨rfl, lw_good wm_609, ⟨by decide, by decide, by decide +kernel⟩, wm_252⟩
theorem zcal_24 : zcal zMt lw_all 24 cX1_take 2 (some .boolean) 1 := ⟨rfl, lw_good wm_610, ⟨by decide, by decide, by decide +kernel⟩, wm_252⟩
theorem zcal_25 : zcal zMt lw_all 25 cX1_takeDraft 2 (some .boolean) 1 := ⟨rfl, lw_good wm_611, ⟨by decide, by decide, by decide +kernel⟩, wm_252⟩
theorem zcal_26 : zcal zMt lw_all 26 cX1_takeKind 2 (some .boolean) 1 := ⟨rfl, lw_good wm_612, ⟨by decide, by decide, by decide +kernel⟩, wm_252⟩
theorem zcal_27 : zcal zMt lw_all 27 cX1_takeFirst 3 (some .boolean) 1 := ⟨rfl, lw_good wm_613, ⟨by decide, by decide, by decide +kernel⟩, wm_252⟩
theorem zcal_28 : zcal zMt lw_all 28 cX1_takeSecond 3 (some .boolean) 1 := ⟨rfl, lw_good wm_614, ⟨by decide, by decide, by decide +kernel⟩, wm_252⟩
theorem zcal_29 : zcal zMt lw_all 29 cX1_withDigit 4 (some .int) 3 := ⟨rfl, lw_good wm_615, ⟨by decide, by decide, by decide +kernel⟩, wm_252⟩
theorem zcal_30 : zcal zMt lw_all 30 cX2_init 1 none 0 := ⟨rfl, lw_good wm_616, ⟨by decide, by decide, by decide +kernel⟩, wm_127⟩
theorem zcal_31 : zcal zMt lw_all 31 cX2_of 2 (some .int) 1 := ⟨rfl, lw_good wm_617, ⟨by decide, by decide, by decide +kernel⟩, wm_127⟩
theorem zcal_32 : zcal zMt lw_all 32 cX2_edits 2 (some .boolean) 1 := ⟨rfl, lw_good wm_618, ⟨by decide, by decide, by decide +kernel⟩, wm_127⟩
theorem zcal_33 : zcal zMt lw_all 33 cX2_moved 2 (some .boolean) 1 := ⟨rfl, lw_good wm_619, ⟨by decide, by decide, by decide +kernel⟩, wm_127⟩
theorem zcal_34 : zcal zMt lw_all 34 cX2_removes 2 (some .boolean) 1 := ⟨rfl, lw_good wm_620, ⟨by decide, by decide, by decide +kernel⟩, wm_127⟩
theorem zcal_35 : zcal zMt lw_all 35 cX2_countMoved 4 (some .int) 1 := ⟨rfl, lw_good wm_621, ⟨by decide, by decide, by decide +kernel⟩, wm_127⟩
theorem zcal_36 : zcal zMt lw_all 36 cX2_compare 4 none 2 := ⟨rfl, lw_good wm_622, ⟨by decide, by decide, by decide +kernel⟩, wm_127⟩
theorem zcal_37 : zcal zMt lw_all 37 cX2_changeUnlessKept 4 (some .int) 3 := ⟨rfl, lw_good wm_623, ⟨by decide, by decide, by decide +kernel⟩, wm_127⟩
theorem zcal_38 : zcal zMt lw_all 38 cX2_measureAscending 6 (some .int) 2 := ⟨rfl, lw_good wm_624, ⟨by decide, by decide, by decide +kernel⟩, wm_127⟩
theorem zcal_39 : zcal zMt lw_all 39 cX2_lengthFrom 7 (some .int) 3 := ⟨rfl, lw_good wm_625, ⟨by decide, by decide, by decide +kernel⟩, wm_127⟩
theorem zcal_40 : zcal zMt lw_all 40 cX2_markKept 8 none 3 := ⟨rfl, lw_good wm_626, ⟨by decide, by decide, by decide +kernel⟩, wm_127⟩
theorem zcal_41 : zcal zMt lw_all 41 cX2_leastStart 8 (some .int) 4 := ⟨rfl, lw_good wm_627, ⟨by decide, by decide, by decide +kernel⟩, wm_127⟩
theorem zcal_42 : zcal zMt lw_all 42 cX3_init 2 none 0 := ⟨rfl, lw_good wm_628, ⟨by decide, by decide, by decide +kernel⟩, wm_241⟩
theorem zcal_43 : zcal zMt lw_all 43 cX3_keep 2 none 1 := ⟨rfl, lw_good wm_629, ⟨by decide, by decide, by decide +kernel⟩, wm_241⟩
theorem zcal_44 : zcal zMt lw_all 44 cX3_restoreLast 2 (some .int) 1 := ⟨rfl, lw_good wm_630, ⟨by decide, by decide, by decide +kernel⟩, wm_241⟩
theorem zcal_45 : zcal zMt lw_all 45 cX3_slot 2 (some (.object "DraftMerge$State")) 1 := ⟨rfl, lw_good wm_631, ⟨by decide, by decide, by decide +kernel⟩, wm_241⟩
theorem zcal_46 : zcal zMt lw_all 46 cX3_copy 2 none 2 := ⟨rfl, lw_good wm_632, ⟨by decide, by decide, by decide +kernel⟩, wm_241⟩
theorem zcal_47 : zcal zMt lw_all 47 cX4_init 1 none 0 := ⟨rfl, lw_good wm_633, ⟨by decide, by decide, by decide +kernel⟩, wm_247⟩
theorem zcal_48 : zcal zMt lw_all 48 cX4_changesOf 2 (some (.object "DraftMerge$DraftChanges")) 1 := ⟨rfl, lw_good wm_634, ⟨by decide, by decide, by decide +kernel⟩, wm_247⟩
theorem zcal_49 : zcal zMt lw_all 49 cX4_hasConflict 2 (some .boolean) 1 := ⟨rfl, lw_good wm_635, ⟨by decide, by decide, by decide +kernel⟩, wm_247⟩
theorem zcal_50 : zcal zMt lw_all 50 cX4_blockOfConflict 2 (some .int) 1 := ⟨rfl, lw_good wm_636, ⟨by decide, by decide, by decide +kernel⟩, wm_247⟩
theorem zcal_51 : zcal zMt lw_all 51 cX4_kindOfConflict 2 (some .int) 1 := ⟨rfl, lw_good wm_637, ⟨by decide, by decide, by decide +kernel⟩, wm_247⟩
theorem zcal_52 : zcal zMt lw_all 52 cX4_countOpen 4 (some .int) 1 := ⟨rfl, lw_good wm_638, ⟨by decide, by decide, by decide +kernel⟩, wm_247⟩
theorem zcal_53 : zcal zMt lw_all 53 cX4_make 3 none 1 := ⟨rfl, lw_good wm_639, ⟨by decide, by decide, by decide +kernel⟩, wm_247⟩
theorem zcal_54 : zcal zMt lw_all 54 cX4_decide 5 none 2 := ⟨rfl, lw_good wm_640, ⟨by decide, by decide, by decide +kernel⟩, wm_247⟩
theorem zcal_55 : zcal zMt lw_all 55 cX4_decideRemoved 5 none 3 := ⟨rfl, lw_good wm_641, ⟨by decide, by decide, by decide +kernel⟩, wm_247⟩
theorem zcal_56 : zcal zMt lw_all 56 cX4_contentFromBoth 5 (some .int) 2 := ⟨rfl, lw_good wm_642, ⟨by decide, by decide, by decide +kernel⟩, wm_247⟩
theorem zcal_57 : zcal zMt lw_all 57 cX4_placeFromBoth 5 (some .int) 2 := ⟨rfl, lw_good wm_643, ⟨by decide, by decide, by decide +kernel⟩, wm_247⟩
theorem zcal_58 : zcal zMt lw_all 58 cX4_numberBefore 2 (some .int) 2 := ⟨rfl, lw_good wm_644, ⟨by decide, by decide, by decide +kernel⟩, wm_247⟩
theorem zcal_59 : zcal zMt lw_all 59 cX4_addConflict 3 none 2 := ⟨rfl, lw_good wm_645, ⟨by decide, by decide, by decide +kernel⟩, wm_247⟩
theorem zcal_60 : zcal zMt lw_all 60 cX4_putBlocksOf 6 none 2 := ⟨rfl, lw_good wm_646, ⟨by decide, by decide, by decide +kernel⟩, wm_247⟩
theorem zcal_61 : zcal zMt lw_all 61 cX4_placeBehind 5 (some .int) 2 := ⟨rfl, lw_good wm_647, ⟨by decide, by decide, by decide +kernel⟩, wm_247⟩
theorem zcal_62 : zcal zMt lw_all 62 cX5_init 1 none 0 := ⟨rfl, lw_good wm_648, ⟨by decide, by decide, by decide +kernel⟩, wm_107⟩
theorem zcal_63 : zcal zMt lw_all 63 cX5_draft 2 (some (.object "DraftMerge$Blocks")) 1 := ⟨rfl, lw_good wm_649, ⟨by decide, by decide, by decide +kernel⟩, wm_107⟩
theorem zcal_64 : zcal zMt lw_all 64 cX5_baseCanGrow 1 (some .boolean) 0 := ⟨rfl, lw_good wm_650, ⟨by decide, by decide, by decide +kernel⟩, wm_107⟩
theorem zcal_65 : zcal zMt lw_all 65 cX5_growBase 3 (some .int) 1 := ⟨rfl, lw_good wm_651, ⟨by decide, by decide, by decide +kernel⟩, wm_107⟩
theorem zcal_66 : zcal zMt lw_all 66 cX5_putNewBlock 5 (some .int) 3 := ⟨rfl, lw_good wm_652, ⟨by decide, by decide, by decide +kernel⟩, wm_107⟩
theorem zcal_67 : zcal zMt lw_all 67 cX5_takeNumber 2 (some .int) 0 := ⟨rfl, lw_good wm_653, ⟨by decide, by decide, by decide +kernel⟩, wm_107⟩
theorem zcal_68 : zcal zMt lw_all 68 cX5_choice 3 (some .int) 2 := ⟨rfl, lw_good wm_654, ⟨by decide, by decide, by decide +kernel⟩, wm_107⟩
theorem zcal_69 : zcal zMt lw_all 69 cX5_choiceOrPreferred 4 (some .int) 2 := ⟨rfl, lw_good wm_655, ⟨by decide, by decide, by decide +kernel⟩, wm_107⟩
theorem zcal_70 : zcal zMt lw_all 70 cX5_setChoice 5 (some .int) 3 := ⟨rfl, lw_good wm_656, ⟨by decide, by decide, by decide +kernel⟩, wm_107⟩
theorem zcal_71 : zcal zMt lw_all 71 cX5_choiceIndex 2 (some .int) 2 := ⟨rfl, lw_good wm_657, ⟨by decide, by decide, by decide +kernel⟩, wm_107⟩
theorem zcal_72 : zcal zMt lw_all 72 cX5_takeAsBase 3 none 1 := ⟨rfl, lw_good wm_658, ⟨by decide, by decide, by decide +kernel⟩, wm_107⟩
theorem zcal_73 : zcal zMt lw_all 73 cX5_copyFrom 3 none 1 := ⟨rfl, lw_good wm_659, ⟨by decide, by decide, by decide +kernel⟩, wm_107⟩
theorem zcal_74 : zcal zMt lw_all 74 cX6_init 1 none 0 := ⟨rfl, lw_good wm_661, ⟨by decide, by decide, by decide +kernel⟩, wm_660⟩
theorem zcal_75 : zcal zMt lw_all 75 cX6_addBase 2 (some .int) 1 := ⟨rfl, lw_good wm_662, ⟨by decide, by decide, by decide +kernel⟩, wm_660⟩
theorem zcal_76 : zcal zMt lw_all 76 cX6_edit 5 (some .int) 3 := ⟨rfl, lw_good wm_663, ⟨by decide, by decide, by decide +kernel⟩, wm_660⟩
theorem zcal_77 : zcal zMt lw_all 77 cX6_move 4 (some .int) 3 := ⟨rfl, lw_good wm_664, ⟨by decide, by decide, by decide +kernel⟩, wm_660⟩
theorem zcal_78 : zcal zMt lw_all 78 cX6_insert 5 (some .int) 3 := ⟨rfl, lw_good wm_665, ⟨by decide, by decide, by decide +kernel⟩, wm_660⟩
theorem zcal_79 : zcal zMt lw_all 79 cX6_remove 3 (some .int) 2 := ⟨rfl, lw_good wm_666, ⟨by decide, by decide, by decide +kernel⟩, wm_660⟩
theorem zcal_80 : zcal zMt lw_all 80 cX6_baseSize 1 (some .int) 0 := ⟨rfl, lw_good wm_667, ⟨by decide, by decide, by decide +kernel⟩, wm_660⟩
theorem zcal_81 : zcal zMt lw_all 81 cX6_size 2 (some .int) 1 := ⟨rfl, lw_good wm_668, ⟨by decide, by decide, by decide +kernel⟩, wm_660⟩
theorem zcal_82 : zcal zMt lw_all 82 cX6_block 3 (some .int) 2 := ⟨rfl, lw_good wm_669, ⟨by decide, by decide, by decide +kernel⟩, wm_660⟩
theorem zcal_83 : zcal zMt lw_all 83 cX6_content 3 (some .int) 2 := ⟨rfl, lw_good wm_670, ⟨by decide, by decide, by decide +kernel⟩, wm_660⟩
theorem zcal_84 : zcal zMt lw_all 84 cX6_change 3 (some .int) 2 := ⟨rfl, lw_good wm_671, ⟨by decide, by decide, by decide +kernel⟩, wm_660⟩
theorem zcal_85 : zcal zMt lw_all 85 cX6_moves 2 (some .int) 1 := ⟨rfl, lw_good wm_672, ⟨by decide, by decide, by decide +kernel⟩, wm_660⟩
theorem zcal_86 : zcal zMt lw_all 86 cX6_mergedSize 1 (some .int) 0 := ⟨rfl, lw_good wm_673, ⟨by decide, by decide, by decide +kernel⟩, wm_660⟩
theorem zcal_87 : zcal zMt lw_all 87 cX6_mergedBlock 2 (some .int) 1 := ⟨rfl, lw_good wm_674, ⟨by decide, by decide, by decide +kernel⟩, wm_660⟩
theorem zcal_88 : zcal zMt lw_all 88 cX6_mergedContent 2 (some .int) 1 := ⟨rfl, lw_good wm_675, ⟨by decide, by decide, by decide +kernel⟩, wm_660⟩
theorem zcal_89 : zcal zMt lw_all 89 cX6_conflicts 1 (some .int) 0 := ⟨rfl, lw_good wm_676, ⟨by decide, by decide, by decide +kernel⟩, wm_660⟩
theorem zcal_90 : zcal zMt lw_all 90 cX6_conflictBlock 2 (some .int) 1 := ⟨rfl, lw_good wm_677, ⟨by decide, by decide, by decide +kernel⟩, wm_660⟩
theorem zcal_91 : zcal zMt lw_all 91 cX6_conflictKind 2 (some .int) 1 := ⟨rfl, lw_good wm_678, ⟨by decide, by decide, by decide +kernel⟩, wm_660⟩
theorem zcal_92 : zcal zMt lw_all 92 cX6_choose 3 (some .int) 2 := ⟨rfl, lw_good wm_679, ⟨by decide, by decide, by decide +kernel⟩, wm_660⟩
theorem zcal_93 : zcal zMt lw_all 93 cX6_prefer 3 (some .int) 1 := ⟨rfl, lw_good wm_680, ⟨by decide, by decide, by decide +kernel⟩, wm_660⟩
theorem zcal_94 : zcal zMt lw_all 94 cX6_open 1 (some .int) 0 := ⟨rfl, lw_good wm_681, ⟨by decide, by decide, by decide +kernel⟩, wm_660⟩
theorem zcal_95 : zcal zMt lw_all 95 cX6_accept 1 (some .int) 0 := ⟨rfl, lw_good wm_682, ⟨by decide, by decide, by decide +kernel⟩, wm_660⟩
theorem zcal_96 : zcal zMt lw_all 96 cX6_accepted 1 (some .int) 0 := ⟨rfl, lw_good wm_683, ⟨by decide, by decide, by decide +kernel⟩, wm_660⟩
theorem zcal_97 : zcal zMt lw_all 97 cX6_similarity 4 (some .double) 1 := ⟨rfl, lw_good wm_684, ⟨by decide, by decide, by decide +kernel⟩, wm_660⟩
theorem zcal_98 : zcal zMt lw_all 98 cX6_append 2 (some .int) 1 := ⟨rfl, lw_good wm_685, ⟨by decide, by decide, by decide +kernel⟩, wm_660⟩
theorem zcal_99 : zcal zMt lw_all 99 cX6_clearText 1 (some .int) 0 := ⟨rfl, lw_good wm_686, ⟨by decide, by decide, by decide +kernel⟩, wm_660⟩
theorem zcal_100 : zcal zMt lw_all 100 cX6_firstError 1 (some .int) 0 := ⟨rfl, lw_good wm_687, ⟨by decide, by decide, by decide +kernel⟩, wm_660⟩
theorem zcal_101 : zcal zMt lw_all 101 cX6_run 2 (some .int) 0 := ⟨rfl, lw_good wm_688, ⟨by decide, by decide, by decide +kernel⟩, wm_660⟩
theorem zcal_102 : zcal zMt lw_all 102 cX6_undo 1 (some .int) 0 := ⟨rfl, lw_good wm_689, ⟨by decide, by decide, by decide +kernel⟩, wm_660⟩
theorem zcal_103 : zcal zMt lw_all 103 cX6_savedStates 1 (some .int) 0 := ⟨rfl, lw_good wm_690, ⟨by decide, by decide, by decide +kernel⟩, wm_660⟩
theorem zcal_104 : zcal zMt lw_all 104 cX6_digest 4 (some .long) 0 := ⟨rfl, lw_good wm_691, ⟨by decide, by decide, by decide +kernel⟩, wm_660⟩
theorem zcal_105 : zcal zMt lw_all 105 cX6_mixedWithBlocks 6 (some .long) 2 := ⟨rfl, lw_good wm_692, ⟨by decide, by decide, by decide +kernel⟩, wm_660⟩
theorem zcal_106 : zcal zMt lw_all 106 cX6_mixed 3 (some .long) 2 := ⟨rfl, lw_good wm_693, ⟨by decide, by decide, by decide +kernel⟩, wm_660⟩
theorem zcal_107 : zcal zMt lw_all 107 cX6_isDraft 1 (some .boolean) 1 := ⟨rfl, lw_good wm_694, ⟨by decide, by decide, by decide +kernel⟩, wm_660⟩
theorem zcal_108 : zcal zMt lw_all 108 cX6_isContent 1 (some .boolean) 1 := ⟨rfl, lw_good wm_695, ⟨by decide, by decide, by decide +kernel⟩, wm_660⟩
theorem zcal_109 : zcal zMt lw_all 109 cX6_hasPosition 3 (some .boolean) 2 := ⟨rfl, lw_good wm_696, ⟨by decide, by decide, by decide +kernel⟩, wm_660⟩
theorem zcal_110 : zcal zMt lw_all 110 cX6_editFault 4 (some .int) 3 := ⟨rfl, lw_good wm_697, ⟨by decide, by decide, by decide +kernel⟩, wm_660⟩
theorem zcal_111 : zcal zMt lw_all 111 cX6_moveFault 4 (some .int) 3 := ⟨rfl, lw_good wm_698, ⟨by decide, by decide, by decide +kernel⟩, wm_660⟩
theorem zcal_112 : zcal zMt lw_all 112 cX6_insertFault 4 (some .int) 3 := ⟨rfl, lw_good wm_699, ⟨by decide, by decide, by decide +kernel⟩, wm_660⟩
theorem zcal_113 : zcal zMt lw_all 113 cX6_removeFault 3 (some .int) 2 := ⟨rfl, lw_good wm_700, ⟨by decide, by decide, by decide +kernel⟩, wm_660⟩
theorem zcal_114 : zcal zMt lw_all 114 cX6_executeText 4 (some .int) 0 := ⟨rfl, lw_good wm_701, ⟨by decide, by decide, by decide +kernel⟩, wm_660⟩
theorem zcal_115 : zcal zMt lw_all 115 cX6_executeCommand 4 (some .boolean) 0 := ⟨rfl, lw_good wm_702, ⟨by decide, by decide, by decide +kernel⟩, wm_660⟩
theorem zcal_116 : zcal zMt lw_all 116 cX6_cell 2 (some .int) 2 := ⟨rfl, lw_good wm_703, ⟨by decide, by decide, by decide +kernel⟩, wm_660⟩
theorem zcal_117 : zcal zMt lw_all 117 cX6_setCell 3 none 3 := ⟨rfl, lw_good wm_704, ⟨by decide, by decide, by decide +kernel⟩, wm_660⟩
theorem zcal_118 : zcal zMt lw_all 118 cX7_init 1 none 0 := ⟨rfl, lw_good wm_706, ⟨by decide, by decide, by decide +kernel⟩, wm_705⟩
theorem zcal_119 : zcal zMt lw_all 119 cX7_thrown 1 (some .int) 0 := ⟨rfl, lw_good wm_707, ⟨by decide, by decide, by decide +kernel⟩, wm_705⟩
theorem zcal_120 : zcal zMt lw_all 120 cX7_refused 2 (some .boolean) 1 := ⟨rfl, lw_good wm_708, ⟨by decide, by decide, by decide +kernel⟩, wm_705⟩
theorem zcal_121 : zcal zMt lw_all 121 cX7_in 3 (some .boolean) 3 := ⟨rfl, lw_good wm_709, ⟨by decide, by decide, by decide +kernel⟩, wm_705⟩
theorem zcal_122 : zcal zMt lw_all 122 cX7_saves 2 none 0 := ⟨rfl, lw_good wm_710, ⟨by decide, by decide, by decide +kernel⟩, wm_705⟩
theorem zcal_123 : zcal zMt lw_all 123 cX7_isDraft 1 (some .boolean) 1 := ⟨rfl, lw_good wm_711, ⟨by decide, by decide, by decide +kernel⟩, wm_705⟩
theorem zcal_124 : zcal zMt lw_all 124 cX7_at 2 (some .int) 2 := ⟨rfl, lw_good wm_712, ⟨by decide, by decide, by decide +kernel⟩, wm_705⟩
theorem zcal_125 : zcal zMt lw_all 125 cX7_sizeOf 2 (some .int) 1 := ⟨rfl, lw_good wm_713, ⟨by decide, by decide, by decide +kernel⟩, wm_705⟩
theorem zcal_126 : zcal zMt lw_all 126 cX7_numberAt 3 (some .int) 2 := ⟨rfl, lw_good wm_714, ⟨by decide, by decide, by decide +kernel⟩, wm_705⟩
theorem zcal_127 : zcal zMt lw_all 127 cX7_insideAt 3 (some .int) 2 := ⟨rfl, lw_good wm_715, ⟨by decide, by decide, by decide +kernel⟩, wm_705⟩
theorem zcal_128 : zcal zMt lw_all 128 cX7_isThere 3 (some .boolean) 2 := ⟨rfl, lw_good wm_716, ⟨by decide, by decide, by decide +kernel⟩, wm_705⟩
theorem zcal_129 : zcal zMt lw_all 129 cX7_placeOf 4 (some .int) 2 := ⟨rfl, lw_good wm_717, ⟨by decide, by decide, by decide +kernel⟩, wm_705⟩
theorem zcal_130 : zcal zMt lw_all 130 cX7_has 3 (some .boolean) 2 := ⟨rfl, lw_good wm_718, ⟨by decide, by decide, by decide +kernel⟩, wm_705⟩
theorem zcal_131 : zcal zMt lw_all 131 cX7_contentIn 3 (some .int) 2 := ⟨rfl, lw_good wm_719, ⟨by decide, by decide, by decide +kernel⟩, wm_705⟩
theorem zcal_132 : zcal zMt lw_all 132 cX7_doesEdit 3 (some .boolean) 2 := ⟨rfl, lw_good wm_720, ⟨by decide, by decide, by decide +kernel⟩, wm_705⟩
theorem zcal_133 : zcal zMt lw_all 133 cX7_puts 6 none 4 := ⟨rfl, lw_good wm_721, ⟨by decide, by decide, by decide +kernel⟩, wm_705⟩
theorem zcal_134 : zcal zMt lw_all 134 cX7_takes 4 none 2 := ⟨rfl, lw_good wm_722, ⟨by decide, by decide, by decide +kernel⟩, wm_705⟩
theorem zcal_135 : zcal zMt lw_all 135 cX7_isChanged 4 (some .boolean) 1 := ⟨rfl, lw_good wm_723, ⟨by decide, by decide, by decide +kernel⟩, wm_705⟩
theorem zcal_136 : zcal zMt lw_all 136 cX7_addBase 3 (some .int) 1 := ⟨rfl, lw_good wm_724, ⟨by decide, by decide, by decide +kernel⟩, wm_705⟩
theorem zcal_137 : zcal zMt lw_all 137 cX7_barEdit 4 (some .int) 3 := ⟨rfl, lw_good wm_725, ⟨by decide, by decide, by decide +kernel⟩, wm_705⟩
theorem zcal_138 : zcal zMt lw_all 138 cX7_barMove 4 (some .int) 3 := ⟨rfl, lw_good wm_726, ⟨by decide, by decide, by decide +kernel⟩, wm_705⟩
theorem zcal_139 : zcal zMt lw_all 139 cX7_barInsert 4 (some .int) 3 := ⟨rfl, lw_good wm_727, ⟨by decide, by decide, by decide +kernel⟩, wm_705⟩
theorem zcal_140 : zcal zMt lw_all 140 cX7_barRemove 3 (some .int) 2 := ⟨rfl, lw_good wm_728, ⟨by decide, by decide, by decide +kernel⟩, wm_705⟩
theorem zcal_141 : zcal zMt lw_all 141 cX7_edits 5 (some .int) 3 := ⟨rfl, lw_good wm_729, ⟨by decide, by decide, by decide +kernel⟩, wm_705⟩
theorem zcal_142 : zcal zMt lw_all 142 cX7_shifts 6 (some .int) 3 := ⟨rfl, lw_good wm_730, ⟨by decide, by decide, by decide +kernel⟩, wm_705⟩
theorem zcal_143 : zcal zMt lw_all 143 cX7_inserts 5 (some .int) 3 := ⟨rfl, lw_good wm_731, ⟨by decide, by decide, by decide +kernel⟩, wm_705⟩
theorem zcal_144 : zcal zMt lw_all 144 cX7_removes 4 (some .int) 2 := ⟨rfl, lw_good wm_732, ⟨by decide, by decide, by decide +kernel⟩, wm_705⟩
theorem zcal_145 : zcal zMt lw_all 145 cX7_edit 4 (some .int) 3 := ⟨rfl, lw_good wm_733, ⟨by decide, by decide, by decide +kernel⟩, wm_705⟩
theorem zcal_146 : zcal zMt lw_all 146 cX7_move 4 (some .int) 3 := ⟨rfl, lw_good wm_734, ⟨by decide, by decide, by decide +kernel⟩, wm_705⟩
theorem zcal_147 : zcal zMt lw_all 147 cX7_insert 4 (some .int) 3 := ⟨rfl, lw_good wm_735, ⟨by decide, by decide, by decide +kernel⟩, wm_705⟩
theorem zcal_148 : zcal zMt lw_all 148 cX7_remove 3 (some .int) 2 := ⟨rfl, lw_good wm_736, ⟨by decide, by decide, by decide +kernel⟩, wm_705⟩
theorem zcal_149 : zcal zMt lw_all 149 cX7_baseSize 1 (some .int) 0 := ⟨rfl, lw_good wm_737, ⟨by decide, by decide, by decide +kernel⟩, wm_705⟩
theorem zcal_150 : zcal zMt lw_all 150 cX7_size 2 (some .int) 1 := ⟨rfl, lw_good wm_738, ⟨by decide, by decide, by decide +kernel⟩, wm_705⟩
theorem zcal_151 : zcal zMt lw_all 151 cX7_block 3 (some .int) 2 := ⟨rfl, lw_good wm_739, ⟨by decide, by decide, by decide +kernel⟩, wm_705⟩
theorem zcal_152 : zcal zMt lw_all 152 cX7_content 3 (some .int) 2 := ⟨rfl, lw_good wm_740, ⟨by decide, by decide, by decide +kernel⟩, wm_705⟩
theorem zcal_153 : zcal zMt lw_all 153 cX7_keeps 9 none 1 := ⟨rfl, lw_good wm_741, ⟨by decide, by decide, by decide +kernel⟩, wm_705⟩
theorem zcal_154 : zcal zMt lw_all 154 cX7_doesMove 3 (some .boolean) 2 := ⟨rfl, lw_good wm_742, ⟨by decide, by decide, by decide +kernel⟩, wm_705⟩
theorem zcal_155 : zcal zMt lw_all 155 cX7_changeOf 3 (some .int) 2 := ⟨rfl, lw_good wm_743, ⟨by decide, by decide, by decide +kernel⟩, wm_705⟩
theorem zcal_156 : zcal zMt lw_all 156 cX7_change 3 (some .int) 2 := ⟨rfl, lw_good wm_744, ⟨by decide, by decide, by decide +kernel⟩, wm_705⟩
theorem zcal_157 : zcal zMt lw_all 157 cX7_moves 4 (some .int) 1 := ⟨rfl, lw_good wm_745, ⟨by decide, by decide, by decide +kernel⟩, wm_705⟩
theorem zcal_158 : zcal zMt lw_all 158 cX7_chosen 4 (some .int) 2 := ⟨rfl, lw_good wm_746, ⟨by decide, by decide, by decide +kernel⟩, wm_705⟩
theorem zcal_159 : zcal zMt lw_all 159 cX7_ahead 4 (some .int) 2 := ⟨rfl, lw_good wm_747, ⟨by decide, by decide, by decide +kernel⟩, wm_705⟩
theorem zcal_160 : zcal zMt lw_all 160 cX7_judges 5 none 1 := ⟨rfl, lw_good wm_748, ⟨by decide, by decide, by decide +kernel⟩, wm_705⟩
theorem zcal_161 : zcal zMt lw_all 161 cX7_mergedAt 4 (some .int) 1 := ⟨rfl, lw_good wm_749, ⟨by decide, by decide, by decide +kernel⟩, wm_705⟩
theorem zcal_162 : zcal zMt lw_all 162 cX7_lays 5 none 3 := ⟨rfl, lw_good wm_750, ⟨by decide, by decide, by decide +kernel⟩, wm_705⟩
theorem zcal_163 : zcal zMt lw_all 163 cX7_laysOf 7 none 1 := ⟨rfl, lw_good wm_751, ⟨by decide, by decide, by decide +kernel⟩, wm_705⟩
theorem zcal_164 : zcal zMt lw_all 164 cX7_merges 2 none 0 := ⟨rfl, lw_good wm_752, ⟨by decide, by decide, by decide +kernel⟩, wm_705⟩
theorem zcal_165 : zcal zMt lw_all 165 cX7_mergedSize 1 (some .int) 0 := ⟨rfl, lw_good wm_753, ⟨by decide, by decide, by decide +kernel⟩, wm_705⟩
theorem zcal_166 : zcal zMt lw_all 166 cX7_mergedBlock 2 (some .int) 1 := ⟨rfl, lw_good wm_754, ⟨by decide, by decide, by decide +kernel⟩, wm_705⟩
theorem zcal_167 : zcal zMt lw_all 167 cX7_mergedContent 2 (some .int) 1 := ⟨rfl, lw_good wm_755, ⟨by decide, by decide, by decide +kernel⟩, wm_705⟩
theorem zcal_168 : zcal zMt lw_all 168 cX7_conflicts 1 (some .int) 0 := ⟨rfl, lw_good wm_756, ⟨by decide, by decide, by decide +kernel⟩, wm_705⟩
theorem zcal_169 : zcal zMt lw_all 169 cX7_conflictBlock 2 (some .int) 1 := ⟨rfl, lw_good wm_757, ⟨by decide, by decide, by decide +kernel⟩, wm_705⟩
theorem zcal_170 : zcal zMt lw_all 170 cX7_conflictKind 2 (some .int) 1 := ⟨rfl, lw_good wm_758, ⟨by decide, by decide, by decide +kernel⟩, wm_705⟩
theorem zcal_171 : zcal zMt lw_all 171 cX7_choose 5 (some .int) 2 := ⟨rfl, lw_good wm_759, ⟨by decide, by decide, by decide +kernel⟩, wm_705⟩
theorem zcal_172 : zcal zMt lw_all 172 cX7_prefer 3 (some .int) 1 := ⟨rfl, lw_good wm_760, ⟨by decide, by decide, by decide +kernel⟩, wm_705⟩
theorem zcal_173 : zcal zMt lw_all 173 cX7_openOnes 3 (some .int) 0 := ⟨rfl, lw_good wm_761, ⟨by decide, by decide, by decide +kernel⟩, wm_705⟩
theorem zcal_174 : zcal zMt lw_all 174 cX7_open 1 (some .int) 0 := ⟨rfl, lw_good wm_762, ⟨by decide, by decide, by decide +kernel⟩, wm_705⟩
theorem zcal_175 : zcal zMt lw_all 175 cX7_accept 3 (some .int) 0 := ⟨rfl, lw_good wm_763, ⟨by decide, by decide, by decide +kernel⟩, wm_705⟩
theorem zcal_176 : zcal zMt lw_all 176 cX7_accepted 1 (some .int) 0 := ⟨rfl, lw_good wm_764, ⟨by decide, by decide, by decide +kernel⟩, wm_705⟩
theorem zcal_177 : zcal zMt lw_all 177 cX7_similarity 6 (some .double) 1 := ⟨rfl, lw_good wm_765, ⟨by decide, by decide, by decide +kernel⟩, wm_705⟩
theorem zcal_178 : zcal zMt lw_all 178 cX7_append 2 (some .int) 1 := ⟨rfl, lw_good wm_766, ⟨by decide, by decide, by decide +kernel⟩, wm_705⟩
theorem zcal_179 : zcal zMt lw_all 179 cX7_clearText 2 (some .int) 0 := ⟨rfl, lw_good wm_767, ⟨by decide, by decide, by decide +kernel⟩, wm_705⟩
theorem zcal_180 : zcal zMt lw_all 180 cX7_next 1 (some .int) 0 := ⟨rfl, lw_good wm_768, ⟨by decide, by decide, by decide +kernel⟩, wm_705⟩
theorem zcal_181 : zcal zMt lw_all 181 cX7_sign 2 none 1 := ⟨rfl, lw_good wm_769, ⟨by decide, by decide, by decide +kernel⟩, wm_705⟩
theorem zcal_182 : zcal zMt lw_all 182 cX7_digit 3 (some .int) 1 := ⟨rfl, lw_good wm_770, ⟨by decide, by decide, by decide +kernel⟩, wm_705⟩
theorem zcal_183 : zcal zMt lw_all 183 cX7_number 4 (some .int) 1 := ⟨rfl, lw_good wm_771, ⟨by decide, by decide, by decide +kernel⟩, wm_705⟩
theorem zcal_184 : zcal zMt lw_all 184 cX7_command 1 none 0 := ⟨rfl, lw_good wm_772, ⟨by decide, by decide, by decide +kernel⟩, wm_705⟩
theorem zcal_185 : zcal zMt lw_all 185 cX7_isWhole 2 (some .boolean) 0 := ⟨rfl, lw_good wm_773, ⟨by decide, by decide, by decide +kernel⟩, wm_705⟩
theorem zcal_186 : zcal zMt lw_all 186 cX7_firstError 2 (some .int) 0 := ⟨rfl, lw_good wm_774, ⟨by decide, by decide, by decide +kernel⟩, wm_705⟩
theorem zcal_187 : zcal zMt lw_all 187 cX7_bars 1 (some .int) 0 := ⟨rfl, lw_good wm_775, ⟨by decide, by decide, by decide +kernel⟩, wm_705⟩
theorem zcal_188 : zcal zMt lw_all 188 cX7_does 1 (some .int) 0 := ⟨rfl, lw_good wm_776, ⟨by decide, by decide, by decide +kernel⟩, wm_705⟩
theorem zcal_189 : zcal zMt lw_all 189 cX7_run 4 (some .int) 0 := ⟨rfl, lw_good wm_777, ⟨by decide, by decide, by decide +kernel⟩, wm_705⟩
theorem zcal_190 : zcal zMt lw_all 190 cX7_undo 2 (some .int) 0 := ⟨rfl, lw_good wm_778, ⟨by decide, by decide, by decide +kernel⟩, wm_705⟩
theorem zcal_191 : zcal zMt lw_all 191 cX7_savedStates 1 (some .int) 0 := ⟨rfl, lw_good wm_779, ⟨by decide, by decide, by decide +kernel⟩, wm_705⟩
theorem zcal_192 : zcal zMt lw_all 192 cX7_digest 5 (some .long) 0 := ⟨rfl, lw_good wm_780, ⟨by decide, by decide, by decide +kernel⟩, wm_705⟩
theorem zcal_193 : zcal zMt lw_all 193 cJA_fill 4 none 2 := ⟨rfl, lw_good wm_782, ⟨by decide, by decide, by decide +kernel⟩, wm_781⟩
theorem zcal_194 : zcalh zMt lw_all 194 cL_addBase 4 (some .int) [(0, 9, 12, 13), (0, 9, 15, 15)] 3 := ⟨rfl, lw_good wm_784, ⟨by decide, by decide, by decide +kernel⟩, wm_783⟩
theorem zcal_195 : zcalh zMt lw_all 195 cL_edit 6 (some .int) [(0, 12, 15, 21), (0, 12, 19, 13)] 5 := ⟨rfl, lw_good wm_785, ⟨by decide, by decide, by decide +kernel⟩, wm_783⟩
theorem zcal_196 : zcalh zMt lw_all 196 cL_move 6 (some .int) [(0, 12, 15, 21)] 5 := ⟨rfl, lw_good wm_786, ⟨by decide, by decide, by decide +kernel⟩, wm_783⟩
theorem zcal_197 : zcalh zMt lw_all 197 cL_insert 6 (some .int) [(0, 12, 15, 21), (0, 12, 19, 13), (0, 12, 23, 15)] 5 := ⟨rfl, lw_good wm_787, ⟨by decide, by decide, by decide +kernel⟩, wm_783⟩
theorem zcal_198 : zcalh zMt lw_all 198 cL_remove 5 (some .int) [(0, 10, 13, 21)] 4 := ⟨rfl, lw_good wm_788, ⟨by decide, by decide, by decide +kernel⟩, wm_783⟩
theorem zcal_199 : zcalh zMt lw_all 199 cL_size 4 (some .int) [(0, 9, 12, 21)] 3 := ⟨rfl, lw_good wm_789, ⟨by decide, by decide, by decide +kernel⟩, wm_783⟩
theorem zcal_200 : zcalh zMt lw_all 200 cL_block 5 (some .int) [(0, 10, 13, 21)] 4 := ⟨rfl, lw_good wm_790, ⟨by decide, by decide, by decide +kernel⟩, wm_783⟩
theorem zcal_201 : zcalh zMt lw_all 201 cL_content 5 (some .int) [(0, 10, 13, 21)] 4 := ⟨rfl, lw_good wm_791, ⟨by decide, by decide, by decide +kernel⟩, wm_783⟩
theorem zcal_202 : zcalh zMt lw_all 202 cL_change 5 (some .int) [(0, 10, 13, 21)] 4 := ⟨rfl, lw_good wm_792, ⟨by decide, by decide, by decide +kernel⟩, wm_783⟩
theorem zcal_203 : zcalh zMt lw_all 203 cL_moves 4 (some .int) [(0, 9, 12, 21)] 3 := ⟨rfl, lw_good wm_793, ⟨by decide, by decide, by decide +kernel⟩, wm_783⟩
theorem zcal_204 : zcalh zMt lw_all 204 cL_mergedBlock 4 (some .int) [(0, 9, 12, 21)] 3 := ⟨rfl, lw_good wm_794, ⟨by decide, by decide, by decide +kernel⟩, wm_783⟩
theorem zcal_205 : zcalh zMt lw_all 205 cL_mergedContent 4 (some .int) [(0, 9, 12, 21)] 3 := ⟨rfl, lw_good wm_795, ⟨by decide, by decide, by decide +kernel⟩, wm_783⟩
theorem zcal_206 : zcalh zMt lw_all 206 cL_conflictBlock 4 (some .int) [(0, 9, 12, 21)] 3 := ⟨rfl, lw_good wm_796, ⟨by decide, by decide, by decide +kernel⟩, wm_783⟩
theorem zcal_207 : zcalh zMt lw_all 207 cL_conflictKind 4 (some .int) [(0, 9, 12, 21)] 3 := ⟨rfl, lw_good wm_797, ⟨by decide, by decide, by decide +kernel⟩, wm_783⟩
theorem zcal_208 : zcalh zMt lw_all 208 cL_choose 5 (some .int) [(0, 10, 13, 21), (0, 10, 17, 13)] 4 := ⟨rfl, lw_good wm_798, ⟨by decide, by decide, by decide +kernel⟩, wm_783⟩
theorem zcal_209 : zcalh zMt lw_all 209 cL_prefer 4 (some .int) [(0, 9, 12, 21)] 3 := ⟨rfl, lw_good wm_799, ⟨by decide, by decide, by decide +kernel⟩, wm_783⟩
theorem zcal_210 : zcalh zMt lw_all 210 cL_accept 3 (some .int) [(0, 8, 11, 15)] 2 := ⟨rfl, lw_good wm_800, ⟨by decide, by decide, by decide +kernel⟩, wm_783⟩
theorem zcal_211 : zcalh zMt lw_all 211 cL_similarity 4 (some .int) [(0, 8, 11, 21)] 3 := ⟨rfl, lw_good wm_801, ⟨by decide, by decide, by decide +kernel⟩, wm_783⟩
theorem zcal_212 : zcalh zMt lw_all 212 cL_append 4 (some .int) [(0, 9, 12, 13), (0, 9, 15, 15)] 3 := ⟨rfl, lw_good wm_802, ⟨by decide, by decide, by decide +kernel⟩, wm_783⟩
theorem zcal_213 : zcalh zMt lw_all 213 cL_run 3 (some .int) [(0, 8, 11, 13)] 2 := ⟨rfl, lw_good wm_803, ⟨by decide, by decide, by decide +kernel⟩, wm_783⟩
theorem zcal_214 : zcalh zMt lw_all 214 cL_undo 3 (some .int) [(0, 8, 11, 15)] 2 := ⟨rfl, lw_good wm_804, ⟨by decide, by decide, by decide +kernel⟩, wm_783⟩
theorem thr_0_41_45 : zthr lw_all zNw RX6 41 45 0 := ⟨wm_805, wm_806, fun w h => List.mem_filter.mpr ⟨(show ∀ w ∈ (vx_atS RX6 45 "java/lang/IllegalArgumentException" ["java/lang/RuntimeException", "java/lang/Exception"]).filter goodWord, w ∈ lw_tbl by decide +kernel) w h, (List.mem_filter.mp h).2⟩, by decide +kernel, by decide +kernel, by decide +kernel, by decide +kernel⟩
theorem thr_1_52_56 : zthr lw_all zNw RX6 52 56 1 := ⟨wm_807, wm_808, fun w h => List.mem_filter.mpr ⟨(show ∀ w ∈ (vx_atS RX6 56 "java/lang/IllegalStateException" ["java/lang/RuntimeException", "java/lang/Exception"]).filter goodWord, w ∈ lw_tbl by decide +kernel) w h, (List.mem_filter.mp h).2⟩, by decide +kernel, by decide +kernel, by decide +kernel, by decide +kernel⟩
theorem thr_2_69_73 : zthr lw_all zNw RX6 69 73 2 := ⟨wm_809, wm_810, fun w h => List.mem_filter.mpr ⟨(show ∀ w ∈ (vx_atS RX6 73 "java/lang/IndexOutOfBoundsException" ["java/lang/RuntimeException", "java/lang/Exception"]).filter goodWord, w ∈ lw_tbl by decide +kernel) w h, (List.mem_filter.mp h).2⟩, by decide +kernel, by decide +kernel, by decide +kernel, by decide +kernel⟩
