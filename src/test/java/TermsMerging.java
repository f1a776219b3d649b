/** The sentences of "Merging". */
final class TermsMerging {
    private static final String S = "Merging";
    private static final String MOVED_BY_BOTH = "If both drafts move it, the blocks directly before it in both drafts are "
            + "compared: if these are the same block (or if there is none in either draft), its place is that of the draft "
            + "0; otherwise this is a conflict of the kind 3 (moved twice), and its place is that of the choice.";

    private TermsMerging() {
    }

    static void check() {
        conflictsOfThreeKinds();
        preferredAtFirst0();
        choiceOfBlockAndKind();
        bothRemove();
        removedOrEdited();
        removedOrEditedByChoice();
        removedAndNotEdited();
        noneRemoves();
        contentWithoutConflict();
        editedTwice();
        placeIsFree();
        placeOfOneDraft();
        placeOfBothDrafts();
        placeOfTheDraft0();
        movedTwice();
        mergedTextAtFirst();
        draft0ThenDraft1();
        behindTheNearest();
        contentsOfNewBlocks();
        conflictsAreNumbered();
    }

    private static void isMerged(String call, DraftMerge x, String want) {
        Due.isText("merged text: " + call, Due.merged(x), want);
    }

    private static void areConflicts(String call, DraftMerge x, String want) {
        Due.isText("conflicts: " + call, Due.conflicts(x), want);
    }

    private static void conflictsOfThreeKinds() {
        Due.says(S, "Each conflict is about one block of the base, and it has one of three kinds.");
        DraftMerge x = Due.withBase(10, 20, 30, 40);
        areConflicts("none", x, "");
        Due.write(x, "0m3>0;1m3>1;0e1=11;1e0=12;0r2;1e2=22;0i0=50;1i0=60");
        x.run();
        areConflicts("of each kind, none of them about a new block", x, "0/1 1/2 3/3");
        Due.is("conflicts", x.conflicts(), 3);
        Due.is("open", x.open(), 3);
    }

    private static void preferredAtFirst0() {
        Due.says(S, "There is a preferred draft, at first 0.");
        DraftMerge x = Due.withBase(10);
        x.edit(0, 0, 11);
        x.edit(1, 0, 12);
        isMerged("at first", x, "0:11");
        Due.is("prefer(1) at first", x.prefer(1), 0);
        isMerged("when the draft 1 is preferred", x, "0:12");
        Due.is("prefer(0) in another new object", new DraftMerge().prefer(0), 0);
    }

    private static void choiceOfBlockAndKind() {
        Due.says(S, "For each block of the base and each kind there can be a choice, which is a draft; otherwise, the "
                + "preferred draft counts as the choice.");
        DraftMerge x = Due.withBase(10, 20, 30, 40);
        Due.write(x, "0m3>0;1m3>1;0e0=41;1e1=42;0e1=11;1e0=12");
        x.run();
        areConflicts("of two blocks", x, "0/1 3/1 3/3");
        isMerged("no choice, preferred 0", x, "3:41 0:11 1:20 2:30");
        x.prefer(1);
        isMerged("no choice, preferred 1", x, "0:12 3:42 1:20 2:30");
        x.choose(1, 0);
        isMerged("0 for the kind 1 of the block 3", x, "0:12 3:41 1:20 2:30");
        x.choose(1, DraftMerge.NONE);
        x.choose(2, 0);
        isMerged("0 for the kind 3 of the block 3", x, "3:42 0:12 1:20 2:30");
        x.choose(2, DraftMerge.NONE);
        x.choose(0, 0);
        isMerged("0 for the kind 1 of the block 0", x, "0:11 3:42 1:20 2:30");
        x.prefer(0);
        x.choose(0, 1);
        isMerged("1 for the kind 1 of the block 0, preferred 0", x, "3:41 0:12 1:20 2:30");
    }

    private static void bothRemove() {
        Due.says(S, "For each block of the base: Both drafts remove it: it is not merged.");
        DraftMerge x = Due.withBase(10, 20, 30);
        Due.write(x, "0r1;1r1");
        x.run();
        isMerged("1 is removed in both", x, "0:10 2:30");
        areConflicts("1 is removed in both", x, "");
        x.prefer(1);
        isMerged("1 is removed in both, preferred 1", x, "0:10 2:30");
        Due.write(x, "0r0;1r0;0r0;1r0");
        x.run();
        isMerged("all are removed in both", x, "");
        areConflicts("all are removed in both", x, "");
    }

    private static DraftMerge removedAndEdited(int remover) {
        DraftMerge x = Due.withBase(10, 20, 30);
        x.remove(remover, 1);
        x.edit(1 - remover, 1, 21);
        return x;
    }

    private static void removedOrEdited() {
        Due.says(S, "One draft removes it, and the other one edits it: this is a conflict of the kind 2 (removed or "
                + "edited).");
        for (int remover = 0; remover < 2; remover++) {
            DraftMerge x = removedAndEdited(remover);
            areConflicts("removed and edited", x, "1/2");
            x.edit(1 - remover, 1, 20);
            areConflicts("removed, and edited back to the content of the base", x, "");
            x.undo();
            x.remove(1 - remover, 1);
            areConflicts("edited, but removed in both", x, "");
        }
    }

    private static void removedOrEditedByChoice() {
        Due.says(S, "If the choice is the draft that removes it, it is not merged; otherwise it is merged with the content "
                + "of the other draft.");
        for (int remover = 0; remover < 2; remover++) {
            DraftMerge x = removedAndEdited(remover);
            x.prefer(remover);
            isMerged("the preferred draft removes it", x, "0:10 2:30");
            x.prefer(1 - remover);
            isMerged("the preferred draft edits it", x, "0:10 1:21 2:30");
            x.choose(0, remover);
            isMerged("the chosen draft removes it", x, "0:10 2:30");
            x.prefer(remover);
            x.choose(0, 1 - remover);
            isMerged("the chosen draft edits it", x, "0:10 1:21 2:30");
            x.edit(1 - remover, 1, 0);
            isMerged("the chosen draft edits it to 0", x, "0:10 1:0 2:30");
        }
    }

    private static void removedAndNotEdited() {
        Due.says(S, "One draft removes it, and the other one does not edit it: it is not merged (also if the other draft "
                + "moves it).");
        for (int remover = 0; remover < 2; remover++) {
            DraftMerge x = Due.withBase(10, 20, 30);
            x.prefer(1 - remover);
            x.remove(remover, 2);
            isMerged("the other draft does nothing with it", x, "0:10 1:20");
            x.move(1 - remover, 2, 0);
            Due.is("the other draft moves it", x.change(1 - remover, 2), 2);
            isMerged("the other draft moves it", x, "0:10 1:20");
            areConflicts("the other draft moves it", x, "");
            x.edit(1 - remover, 0, 31);
            areConflicts("the other draft moves and edits it", x, "2/2");
            isMerged("the other draft moves and edits it", x, "2:31 0:10 1:20");
        }
    }

    private static void noneRemoves() {
        Due.says(S, "No draft removes it: it is merged.");
        DraftMerge x = Due.withBase(10, 20, 30);
        Due.is("mergedSize when none is removed", x.mergedSize(), 3);
        Due.write(x, "0m2>0;1m0>2;0e0=1;1e0=2;0e1=3;1e2=4");
        x.run();
        Due.is("mergedSize when all are edited or moved", x.mergedSize(), 3);
        isMerged("all are edited or moved", x, "2:1 0:3 1:2");
        x.remove(1, 2);
        x.choose(0, 1);
        isMerged("0 is removed in the draft 1", x, "2:1 1:2");
    }

    private static void contentWithoutConflict() {
        Due.says(S, "Its content is that of the base if no draft edits it, that of the draft that edits it if only one does, "
                + "and the content of both if both edit it to the same content.");
        DraftMerge x = Due.withBase(10);
        isMerged("no draft edits it", x, "0:10");
        x.edit(0, 0, 11);
        isMerged("the draft 0 edits it", x, "0:11");
        x.prefer(1);
        isMerged("the draft 0 edits it, preferred 1", x, "0:11");
        x.edit(1, 0, 11);
        isMerged("both edit it to 11", x, "0:11");
        areConflicts("both edit it to 11", x, "");
        x.edit(0, 0, 10);
        isMerged("the draft 1 edits it", x, "0:11");
        x.prefer(0);
        isMerged("the draft 1 edits it, preferred 0", x, "0:11");
        areConflicts("the draft 1 edits it", x, "");
    }

    private static void editedTwice() {
        Due.says(S, "If both edit it to different contents, this is a conflict of the kind 1 (edited twice), and its content "
                + "is that of the choice.");
        DraftMerge x = Due.withBase(10);
        x.edit(0, 0, 11);
        x.edit(1, 0, 12);
        areConflicts("11 and 12", x, "0/1");
        isMerged("preferred 0", x, "0:11");
        x.choose(0, 1);
        isMerged("the choice is 1", x, "0:12");
        x.prefer(1);
        x.choose(0, 0);
        isMerged("the choice is 0, preferred 1", x, "0:11");
        x.edit(1, 0, 11);
        areConflicts("11 and 11", x, "");
        x.edit(0, 0, 99);
        areConflicts("99 and 11", x, "0/1");
        isMerged("the choice is 0", x, "0:99");
    }

    private static void placeIsFree() {
        Due.says(S, "The place of a merged block of the base is free if no draft moves it.");
        DraftMerge x = Due.withBase(10, 20, 30, 40);
        Due.write(x, "0r0;1i0=50;0e0=21;1e4=41");
        x.run();
        isMerged("removed before it, inserted before it, edited, but not moved", x, "4:50 1:21 2:30 3:41");
        areConflicts("none is moved", x, "");
        DraftMerge y = Due.withBase(10, 20, 30);
        Due.write(y, "0r2;1e2=31");
        y.run();
        y.choose(0, 1);
        isMerged("removed in the one and edited in the other", y, "0:10 1:20 2:31");
        y.move(1, 2, 0);
        isMerged("moved by the draft that edits it", y, "2:31 0:10 1:20");
    }

    private static void placeOfOneDraft() {
        Due.says(S, "If one draft moves it, its place is that of this draft.");
        for (int draft = 0; draft < 2; draft++) {
            DraftMerge x = Due.withBase(10, 20, 30, 40);
            x.prefer(1 - draft);
            x.move(draft, 3, 0);
            isMerged("moved to the beginning", x, "3:40 0:10 1:20 2:30");
            x.move(draft, 0, 1);
            isMerged("moved behind 0", x, "0:10 3:40 1:20 2:30");
            x.edit(1 - draft, 3, 41);
            isMerged("and edited in the other draft", x, "0:10 3:41 1:20 2:30");
            areConflicts("moved in one, edited in the other", x, "");
            x.move(draft, 1, 3);
            isMerged("moved back", x, "0:10 1:20 2:30 3:41");
        }
    }

    private static void placeOfBothDrafts() {
        Due.says(S, MOVED_BY_BOTH);
        DraftMerge x = Due.withBase(10, 20, 30, 40);
        x.move(0, 3, 0);
        areConflicts("moved once", x, "");
        x.move(1, 3, 0);
        areConflicts("moved twice, none before it in either draft", x, "");
        x.move(1, 0, 1);
        areConflicts("none before it in the draft 0 alone", x, "3/3");
        x.move(0, 0, 1);
        areConflicts("0 before it in both drafts", x, "");
        x.move(0, 1, 0);
        x.move(0, 0, 2);
        areConflicts("1 before it in the draft 0, 0 in the draft 1", x, "3/3");
        x.move(1, 1, 2);
        areConflicts("1 before it in both drafts", x, "");
        x.insert(1, 2, 50);
        areConflicts("a new block before it in the draft 1", x, "3/3");
        x.insert(0, 2, 50);
        areConflicts("another new block with the same content before it in the draft 0", x, "3/3");
        x.remove(0, 2);
        x.remove(1, 2);
        x.remove(1, 1);
        areConflicts("what is before it in the draft 0 is removed in the draft 1", x, "3/3");
    }

    /** The block 2 before it is placed by the draft 1, so that the places of both drafts are not the same. */
    private static void placeOfTheDraft0() {
        Due.says(S, MOVED_BY_BOTH);
        DraftMerge x = Due.withBase(10, 20, 30, 40, 50);
        Due.order(x, 0, 1, 2, 0, 3, 4);
        Due.order(x, 1, 1, 3, 4, 2, 0);
        Due.isText("changes of draft 0", Due.changes(x, 0), "20000");
        Due.isText("changes of draft 1", Due.changes(x, 1), "20200");
        for (int preferred = 0; preferred < 2; preferred++) {
            x.prefer(preferred);
            areConflicts("2 before 0 in both drafts", x, "");
            isMerged("the place of 0 is that of the draft 0", x, "1:20 0:10 3:40 4:50 2:30");
        }
    }

    private static void movedTwice() {
        Due.says(S, MOVED_BY_BOTH);
        DraftMerge x = Due.withBase(10, 20, 30, 40);
        x.move(0, 3, 0);
        x.move(1, 3, 1);
        isMerged("preferred 0", x, "3:40 0:10 1:20 2:30");
        x.choose(0, 1);
        isMerged("the choice is 1", x, "0:10 3:40 1:20 2:30");
        x.prefer(1);
        isMerged("the choice is 1, preferred 1", x, "0:10 3:40 1:20 2:30");
        x.choose(0, 0);
        isMerged("the choice is 0, preferred 1", x, "3:40 0:10 1:20 2:30");
        x.choose(0, DraftMerge.NONE);
        isMerged("no choice, preferred 1", x, "0:10 3:40 1:20 2:30");
        x.edit(1, 1, 41);
        isMerged("with the content of the draft that edits it", x, "0:10 3:41 1:20 2:30");
    }

    private static void mergedTextAtFirst() {
        Due.says(S, "The merged text is made like this: at first it consists of all merged blocks of the base with a free "
                + "place, in the order of the base.");
        isMerged("of nothing", new DraftMerge(), "");
        DraftMerge x = Due.withBase(10, 20, 30, 40);
        isMerged("of the base alone", x, "0:10 1:20 2:30 3:40");
        x.remove(0, 0);
        x.remove(1, 3);
        isMerged("the first and the last one are removed", x, "1:20 2:30");
        Due.order(x, 0, 3, 1, 2);
        Due.order(x, 1, 2, 0, 1);
        isMerged("and moved in the other draft", x, "2:30 1:20");
    }

    private static void draft0ThenDraft1() {
        Due.says(S, "Then, for the draft 0 and then for the draft 1, the blocks of the draft are taken in their order.");
        DraftMerge x = Due.withBase(10);
        Due.write(x, "0i0=50;0i1=51;1i0=60;1i1=61");
        x.run();
        isMerged("each draft's in their order, the draft 1's at the beginning after the draft 0's", x,
                "3:60 4:61 1:50 2:51 0:10");
        Due.write(x, "1i3=62;1i4=63;0i3=52;0i4=53");
        x.run();
        isMerged("and behind the same block", x, "3:60 4:61 1:50 2:51 0:10 5:62 6:63 7:52 8:53");
    }

    private static void behindTheNearest() {
        Due.says(S, "If such a block is new (inserted in this draft), or a merged block of the base whose place is that of "
                + "this draft, it is inserted into the merged text: directly behind the block that is the nearest one before "
                + "it in this draft among those that are in the merged text already; or at the beginning if there is none.");
        DraftMerge x = Due.withBase(10, 20, 30, 40);
        Due.write(x, "0i0=50;0i5=51;0i3=52");
        x.run();
        isMerged("at the beginning, in the middle and at the end", x, "4:50 0:10 1:20 6:52 2:30 3:40 5:51");
        x.remove(1, 1);
        isMerged("the block before 6 is removed in the draft 1: behind 0", x, "4:50 0:10 6:52 2:30 3:40 5:51");
        DraftMerge y = Due.withBase(10, 20, 30, 40);
        Due.write(y, "1m1>3;0i2=50");
        y.run();
        isMerged("1 is not in the merged text yet: behind 0", y, "0:10 4:50 2:30 3:40 1:20");
        DraftMerge z = Due.withBase(10, 20, 30);
        Due.write(z, "0i1=50;1r0");
        z.run();
        isMerged("no block before it is in the merged text: at the beginning", z, "3:50 1:20 2:30");
        DraftMerge w = Due.withBase(10, 20, 30, 40);
        Due.write(w, "0m0>3;1i4=50;1m4>1");
        w.run();
        isMerged("behind 0, which the draft 0 has moved already", w, "1:20 2:30 3:40 0:10 4:50");
    }

    private static void contentsOfNewBlocks() {
        Due.says(S, "New blocks have their contents.");
        DraftMerge x = Due.withBase(10);
        x.insert(0, 1, 0);
        x.insert(1, 0, 99);
        isMerged("inserted with 0 and 99", x, "2:99 0:10 1:0");
        x.edit(0, 1, 98);
        x.edit(1, 0, 1);
        isMerged("and edited", x, "2:1 0:10 1:98");
        areConflicts("new blocks have none", x, "");
    }

    private static void conflictsAreNumbered() {
        Due.says(S, "The conflicts are numbered from 0 by the numbers of their blocks; a conflict of the kind 1 comes before "
                + "one of the kind 3 about the same block.");
        DraftMerge x = Due.withBase(10, 20, 30, 40);
        Due.write(x, "0m3>0;1m3>1;0e0=41;1e1=42;0r1;1e0=11");
        x.run();
        Due.write(x, "0e1=21;1e2=22");
        x.run();
        areConflicts("of all blocks but 2", x, "0/2 1/1 3/1 3/3");
        Due.is("the first block", x.conflictBlock(0), 0);
        Due.is("the kind of the last but one", x.conflictKind(2), 1);
        Due.is("the kind of the last one", x.conflictKind(3), 3);
        Due.refused(x, "conflictBlock(4)", Due.INDEX, () -> x.conflictBlock(4));
        Due.refused(x, "conflictBlock(-1)", Due.INDEX, () -> x.conflictBlock(-1));
        areConflicts("the most there can be", mostConflicts(),
                "0/1 1/1 1/3 2/1 2/3 3/1 3/3 4/1 4/3 5/1 5/3 6/1 6/3 7/1 7/3 8/1 8/3 9/1 9/3");
    }

    /** All ten blocks are edited twice; all but the kept one are moved twice, each behind a new block in one draft. */
    static DraftMerge mostConflicts() {
        DraftMerge x = Due.withBase(10, 11, 12, 13, 14, 15, 16, 17, 18, 19);
        for (int draft = 0; draft < 2; draft++) {
            for (int block = 0; block < 10; block++) {
                x.edit(draft, block, 50 + draft);
            }
            Due.order(x, draft, 9, 8, 7, 6, 5, 4, 3, 2, 1, 0);
        }
        for (int position = 0; position < 10; position += 2) {
            x.insert(0, position, 90);
        }
        for (int position = 5; position < 12; position += 2) {
            x.insert(1, position, 91);
        }
        return x;
    }
}
