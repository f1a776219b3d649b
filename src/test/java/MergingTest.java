/** Promises 13 to 24: the merged text, its conflicts, accepting it, and how similar it is. */
public final class MergingTest {
    public static void main(String[] args) {
        promise13To15MovedAndEdited();
        promise13To15Removed();
        promise13To15NewBlocks();
        promise13To15Places();
        promise13To15RemovedAtOnce();
        promise14And15Refused();
        promise13To18AskedFirst();
        promise16To18EditedTwice();
        promise16To18RemovedOrEdited();
        promise16To18MovedTwice();
        promise16To18Order();
        promise19Choose();
        promise19ChoiceStays();
        promise19ChoiceOfEachBlock();
        promise20Prefer();
        promise21Open();
        promise22Accept();
        promise22AcceptRefused();
        promise23Accepted();
        promise24Similarity();
        Due.end("MergingTest");
    }

    private static void promise13To15MovedAndEdited() {
        DraftMerge x = Due.withBase(10, 20, 30, 40);
        Due.isText("merged as the base", Due.merged(x), "0:10 1:20 2:30 3:40");
        x.move(0, 3, 0);
        x.edit(1, 3, 44);
        Due.isText("moved and edited", Due.merged(x), "3:44 0:10 1:20 2:30");
        Due.is("mergedSize", x.mergedSize(), 4);
        x.edit(0, 1, 11);
        x.edit(1, 0, 11);
        Due.isText("edited to the same", Due.merged(x), "3:44 0:11 1:20 2:30");
        Due.is("conflicts", x.conflicts(), 0);
        Due.is("digest", x.digest(), digestOf(x));
    }

    private static long digestOf(DraftMerge x) {
        long hash = 8129;
        long[] heads = {x.baseSize(), x.mergedSize(), x.conflicts(), x.open(), x.accepted()};
        for (long v : heads) {
            hash = 31 * hash + v;
        }
        for (int d = 0; d < 2; d++) {
            hash = 31 * hash + x.size(d);
            for (int p = 0; p < x.size(d); p++) {
                hash = 31 * (31 * hash + x.block(d, p)) + x.content(d, p);
            }
        }
        for (int b = 0; b < x.baseSize(); b++) {
            hash = 31 * (31 * hash + x.change(0, b)) + x.change(1, b);
        }
        for (int p = 0; p < x.mergedSize(); p++) {
            hash = 31 * (31 * hash + x.mergedBlock(p)) + x.mergedContent(p);
        }
        return hash;
    }

    private static void promise13To15Removed() {
        DraftMerge x = Due.withBase(10, 20, 30);
        x.remove(0, 1);
        Due.isText("removed in one", Due.merged(x), "0:10 2:30");
        x.move(1, 1, 0);
        Due.isText("removed in one, moved in the other", Due.merged(x), "0:10 2:30");
        Due.is("it is no conflict", x.conflicts(), 0);
        x.remove(1, 0);
        Due.isText("removed in both", Due.merged(x), "0:10 2:30");
        Due.is("it is no conflict", x.conflicts(), 0);
    }

    private static void promise13To15NewBlocks() {
        DraftMerge x = Due.withBase(10, 20);
        x.insert(0, 0, 50);
        x.insert(1, 0, 60);
        Due.isText("both at the beginning: draft 1 comes after, so it stands first", Due.merged(x),
                "3:60 2:50 0:10 1:20");
        x.insert(0, 3, 70);
        x.insert(1, 3, 80);
        x.insert(1, 4, 90);
        Due.isText("both at the end", Due.merged(x), "3:60 2:50 0:10 1:20 5:80 6:90 4:70");
        x.remove(1, 1);
        x.remove(1, 1);
        Due.isText("the draft's blocks without an old one before them", Due.merged(x), "3:60 5:80 6:90 2:50 4:70");
    }

    private static void promise13To15Places() {
        DraftMerge x = Due.withBase(10, 20, 30, 40, 50);
        x.move(0, 0, 4);
        Due.isText("moved behind 4", Due.merged(x), "1:20 2:30 3:40 4:50 0:10");
        x.remove(1, 4);
        Due.isText("behind the nearest that is merged", Due.merged(x), "1:20 2:30 3:40 0:10");
        x.move(1, 2, 0);
        Due.isText("the draft 1 moves another", Due.merged(x), "2:30 1:20 3:40 0:10");
        DraftMerge y = Due.withBase(10, 20, 30, 40);
        y.move(0, 0, 2);
        y.move(1, 0, 2);
        Due.isText("moved alike", Due.merged(y), "1:20 2:30 0:10 3:40");
        Due.is("moved alike is no conflict", y.conflicts(), 0);
        y.insert(1, 0, 5);
        y.insert(1, 3, 6);
        Due.isText("another new block before it", Due.conflicts(y), "0/3");
        DraftMerge z = Due.withBase(10, 20, 30);
        z.move(0, 2, 0);
        z.move(1, 2, 0);
        Due.isText("moved to the beginning in both", Due.merged(z), "2:30 0:10 1:20");
        Due.is("it is no conflict", z.conflicts(), 0);
        z.insert(1, 0, 7);
        Due.isText("a new block before it in one only", Due.conflicts(z), "2/3");
        promise13To15PlaceOfLaterDraft();
    }

    /** A block whose place is the draft 1's is not merged yet while the draft 0's blocks are taken. */
    private static void promise13To15PlaceOfLaterDraft() {
        DraftMerge x = Due.withBase(10, 20, 30, 40);
        x.move(1, 1, 3);
        x.insert(0, 2, 99);
        Due.isText("new behind 0, as 1 comes later", Due.merged(x), "0:10 4:99 2:30 3:40 1:20");
    }

    private static void promise13To15RemovedAtOnce() {
        DraftMerge x = Due.withBase(10, 20, 30);
        Due.is("mergedSize", x.mergedSize(), 3);
        Due.write(x, "0r1;1r1");
        x.run();
        Due.isText("removed in both by one call", Due.merged(x), "0:10 2:30");
    }

    /** Each call is the first one that asks after the change. */
    private static void promise13To18AskedFirst() {
        DraftMerge x = Due.withBase(10, 20, 30);
        x.move(0, 2, 0);
        Due.is("mergedBlock", x.mergedBlock(0), 2);
        x.edit(1, 2, 33);
        Due.is("mergedContent", x.mergedContent(0), 33);
        x.edit(0, 0, 31);
        Due.is("conflictBlock", x.conflictBlock(0), 2);
        x.remove(1, 2);
        Due.is("conflictKind", x.conflictKind(0), 2);
        x.undo();
        Due.is("conflictKind", x.conflictKind(0), 1);
        x.remove(1, 2);
        Due.is("conflicts", x.conflicts(), 1);
        x.remove(0, 0);
        Due.is("open", x.open(), 0);
        x.insert(1, 2, 50);
        Due.is("mergedSize", x.mergedSize(), 3);
        x.insert(0, 0, 60);
        Due.isDouble("similarity", x.similarity(1), 3.0 / 4.0);
        x.move(1, 1, 0);
        Due.is("change", x.change(1, 1), 2);
        x.move(1, 1, 0);
        Due.is("moves", x.moves(1), 0);
        x.edit(0, 1, 98);
        x.edit(1, 0, 97);
        Due.is("choose", x.choose(0, 1), DraftMerge.NONE);
        x.insert(1, 0, 51);
        Due.is("accept", x.accept(), 5);
    }

    private static void promise14And15Refused() {
        DraftMerge x = new DraftMerge();
        Due.refused(x, "mergedBlock(0) of nothing", Due.INDEX, () -> x.mergedBlock(0));
        Due.refused(x, "mergedContent(0) of nothing", Due.INDEX, () -> x.mergedContent(0));
        x.addBase(1);
        x.addBase(2);
        x.remove(0, 0);
        int[] wrong = {-1, 1, 2, Integer.MAX_VALUE, Integer.MIN_VALUE};
        for (int w : wrong) {
            Due.refused(x, "mergedBlock(" + w + ")", Due.INDEX, () -> x.mergedBlock(w));
            Due.refused(x, "mergedContent(" + w + ")", Due.INDEX, () -> x.mergedContent(w));
        }
        Due.is("mergedBlock(0)", x.mergedBlock(0), 1);
        Due.is("mergedContent(0)", x.mergedContent(0), 2);
    }

    private static void promise16To18EditedTwice() {
        DraftMerge x = Due.withBase(10, 20);
        x.edit(0, 1, 21);
        Due.is("edited once", x.conflicts(), 0);
        x.edit(1, 1, 22);
        Due.isText("edited twice", Due.conflicts(x), "1/1");
        Due.isText("the preferred draft counts", Due.merged(x), "0:10 1:21");
        x.choose(0, 1);
        Due.isText("the choice counts", Due.merged(x), "0:10 1:22");
        Due.isText("it is a conflict still", Due.conflicts(x), "1/1");
        int[] wrong = {-1, 1, 2, Integer.MAX_VALUE, Integer.MIN_VALUE};
        for (int w : wrong) {
            Due.refused(x, "conflictBlock(" + w + ")", Due.INDEX, () -> x.conflictBlock(w));
            Due.refused(x, "conflictKind(" + w + ")", Due.INDEX, () -> x.conflictKind(w));
        }
    }

    private static void promise16To18RemovedOrEdited() {
        for (int remover = 0; remover < 2; remover++) {
            int other = 1 - remover;
            DraftMerge x = Due.withBase(10, 20, 30);
            x.remove(remover, 1);
            x.edit(other, 1, 22);
            Due.isText("removed or edited", Due.conflicts(x), "1/2");
            Due.isText("preferred 0", Due.merged(x), remover == 0 ? "0:10 2:30" : "0:10 1:22 2:30");
            x.choose(0, remover);
            Due.isText("the remover is chosen", Due.merged(x), "0:10 2:30");
            x.choose(0, other);
            Due.isText("the editor is chosen", Due.merged(x), "0:10 1:22 2:30");
            x.move(other, 1, 0);
            Due.isText("the editor moves it too", Due.merged(x), "1:22 0:10 2:30");
            Due.isText("removed or edited", Due.conflicts(x), "1/2");
        }
    }

    private static void promise16To18MovedTwice() {
        DraftMerge x = Due.withBase(10, 20, 30, 40);
        x.move(0, 3, 0);
        x.move(1, 3, 1);
        Due.isText("moved twice", Due.conflicts(x), "3/3");
        Due.isText("as in draft 0", Due.merged(x), "3:40 0:10 1:20 2:30");
        x.choose(0, 1);
        Due.isText("as in draft 1", Due.merged(x), "0:10 3:40 1:20 2:30");
    }

    private static void promise16To18Order() {
        DraftMerge x = Due.withBase(10, 20, 30, 40);
        x.move(0, 3, 0);
        x.move(1, 3, 1);
        x.edit(0, 0, 41);
        x.edit(1, 1, 42);
        x.remove(0, 1);
        x.edit(1, 0, 11);
        x.edit(0, 1, 21);
        x.edit(1, 2, 22);
        Due.isText("by block, and the kind 1 before the kind 3", Due.conflicts(x), "0/2 1/1 3/1 3/3");
        Due.is("conflicts", x.conflicts(), 4);
    }

    private static void promise19Choose() {
        DraftMerge x = Due.withBase(10, 20);
        x.edit(0, 0, 11);
        x.edit(1, 0, 12);
        Due.is("choose(0, 1)", x.choose(0, 1), DraftMerge.NONE);
        Due.is("choose(0, 0)", x.choose(0, 0), 1);
        Due.is("choose(0, NONE)", x.choose(0, DraftMerge.NONE), 0);
        Due.is("choose(0, NONE)", x.choose(0, DraftMerge.NONE), DraftMerge.NONE);
        Due.is("savedStates", x.savedStates(), 6);
        Due.refused(x, "choose(1, 0)", Due.INDEX, () -> x.choose(1, 0));
        Due.refused(x, "choose(-1, 5)", Due.INDEX, () -> x.choose(-1, 5));
        Due.refused(x, "choose(0, 2)", Due.ARGUMENT, () -> x.choose(0, 2));
        Due.refused(x, "choose(0, -2)", Due.ARGUMENT, () -> x.choose(0, -2));
    }

    private static void promise19ChoiceStays() {
        DraftMerge x = Due.withBase(10, 20, 30);
        x.edit(0, 0, 11);
        x.edit(1, 0, 12);
        x.choose(0, 1);
        x.edit(1, 0, 10);
        Due.is("the conflict disappears", x.conflicts(), 0);
        Due.isText("no conflict, no choice", Due.merged(x), "0:11 1:20 2:30");
        x.edit(1, 0, 13);
        Due.isText("the choice counts again", Due.merged(x), "0:13 1:20 2:30");
        Due.is("open", x.open(), 0);
        x.remove(0, 0);
        Due.isText("another kind", Due.conflicts(x), "0/2");
        Due.is("it has a choice of its own", x.open(), 1);
        Due.is("choose", x.choose(0, 0), DraftMerge.NONE);
        x.undo();
        x.undo();
        x.edit(0, 0, 10);
        x.edit(1, 0, 10);
        x.addBase(40);
        x.edit(0, 0, 11);
        x.edit(1, 0, 12);
        Due.is("it stays when the base grows", x.choose(0, 0), 1);
    }

    private static void promise19ChoiceOfEachBlock() {
        DraftMerge x = Due.withBase(0, 1, 2, 3, 4, 5, 6, 7, 8, 9);
        for (int p = 0; p < 10; p++) {
            x.edit(0, p, 20);
            x.edit(1, p, 30);
        }
        Due.order(x, 0, 9, 8, 7, 6, 5, 4, 3, 2, 1, 0);
        Due.order(x, 1, 5, 6, 7, 8, 9, 4, 3, 2, 1, 0);
        int count = x.conflicts();
        Due.isText("conflicts", Due.conflicts(x), "0/1 1/1 2/1 3/1 4/1 4/3 5/1 6/1 7/1 8/1 9/1");
        Due.is("open", x.open(), count);
        for (int c = 0; c < count; c++) {
            Due.is("choose", x.choose(c, c % 2), DraftMerge.NONE);
            Due.is("open", x.open(), count - 1 - c);
        }
        for (int c = 0; c < count; c++) {
            Due.is("choose once more", x.choose(c, DraftMerge.NONE), c % 2);
        }
        DraftMerge y = Due.withBase(0, 1, 2, 3, 4, 5, 6, 7, 8, 9);
        y.move(0, 9, 0);
        y.move(1, 9, 1);
        Due.isText("the last block is moved twice", Due.conflicts(y), "9/3");
        Due.is("choose", y.choose(0, 1), DraftMerge.NONE);
        Due.is("choose once more", y.choose(0, 1), 1);
        Due.is("mergedBlock", y.mergedBlock(1), 9);
    }

    private static void promise20Prefer() {
        DraftMerge x = Due.withBase(10);
        x.edit(0, 0, 11);
        x.edit(1, 0, 12);
        Due.is("prefer(1)", x.prefer(1), 0);
        Due.isText("merged", Due.merged(x), "0:12");
        Due.is("prefer(1)", x.prefer(1), 1);
        Due.is("savedStates", x.savedStates(), 5);
        Due.is("it is no choice", x.open(), 1);
        x.choose(0, 0);
        Due.isText("a choice comes before it", Due.merged(x), "0:11");
        x.accept();
        Due.is("it stays after accept", x.prefer(0), 1);
        Due.refused(x, "prefer(2)", Due.INDEX, () -> x.prefer(2));
        Due.refused(x, "prefer(-1)", Due.INDEX, () -> x.prefer(-1));
    }

    private static void promise21Open() {
        DraftMerge x = Due.withBase(10, 20);
        for (int position = 0; position < 2; position++) {
            x.edit(0, position, 1);
            x.edit(1, position, 2);
        }
        Due.is("open", x.open(), 2);
        x.choose(1, 0);
        Due.is("open", x.open(), 1);
        x.choose(0, 1);
        Due.is("open", x.open(), 0);
        x.choose(0, DraftMerge.NONE);
        Due.is("open", x.open(), 1);
    }

    private static void promise22Accept() {
        DraftMerge x = Due.withBase(10, 20, 30);
        x.move(0, 2, 0);
        x.edit(1, 0, 11);
        x.edit(0, 1, 12);
        x.insert(1, 3, 77);
        x.choose(0, 1);
        Due.isText("merged", Due.merged(x), "2:30 3:77 0:11 1:20");
        Due.is("accept", x.accept(), 4);
        Due.isText("draft 0", Due.blocks(x, 0), "0:30 1:77 2:11 3:20");
        Due.isText("draft 1", Due.blocks(x, 1), "0:30 1:77 2:11 3:20");
        Due.is("baseSize", x.baseSize(), 4);
        Due.isText("changes", Due.changes(x, 0) + Due.changes(x, 1), "00000000");
        x.edit(0, 0, 1);
        x.edit(1, 0, 2);
        Due.is("choices are removed", x.open(), 1);
        Due.is("choose", x.choose(0, 0), DraftMerge.NONE);
        DraftMerge empty = new DraftMerge();
        Due.is("accept of nothing", empty.accept(), 0);
        Due.is("savedStates", empty.savedStates(), 1);
    }

    private static void promise22AcceptRefused() {
        DraftMerge x = Due.withBase(0, 1, 2, 3, 4, 5, 6, 7, 8, 9);
        x.insert(1, 0, 50);
        Due.refused(x, "accept of 11", Due.STATE, x::accept);
        x.remove(0, 9);
        Due.is("accept of 10", x.accept(), 10);
        x.edit(0, 0, 1);
        x.edit(1, 0, 2);
        Due.refused(x, "accept of an open conflict", Due.STATE, x::accept);
        x.prefer(1);
        Due.refused(x, "accept of an open conflict with a preferred draft", Due.STATE, x::accept);
        x.choose(0, 0);
        Due.is("accept", x.accept(), 10);
    }

    private static void promise23Accepted() {
        DraftMerge x = Due.withBase(1);
        x.accept();
        x.accept();
        Due.is("accepted", x.accepted(), 2);
        x.edit(0, 0, 2);
        x.edit(1, 0, 3);
        Due.refused(x, "accept", Due.STATE, x::accept);
        Due.is("accepted", x.accepted(), 2);
        x.undo();
        x.undo();
        x.undo();
        Due.is("it is a part of the state that undo restores", x.accepted(), 1);
    }

    private static void promise24Similarity() {
        DraftMerge x = new DraftMerge();
        Due.isDouble("of nothing", x.similarity(0), 1.0);
        Due.isDouble("of nothing", x.similarity(1), 1.0);
        x.addBase(10);
        x.addBase(20);
        x.addBase(30);
        Due.isDouble("of the same", x.similarity(0), 1.0);
        x.move(0, 2, 0);
        x.edit(0, 1, 11);
        Due.isDouble("places do not count", x.similarity(0), 1.0);
        Due.isDouble("contents count", x.similarity(1), 2.0 / 3.0);
        x.insert(1, 0, 50);
        Due.isDouble("a block more", x.similarity(0), 3.0 / 4.0);
        Due.isDouble("of the draft 1", x.similarity(1), 3.0 / 4.0);
        x.remove(1, 3);
        x.undo();
        x.remove(0, 2);
        Due.isDouble("a block less", x.similarity(1), 2.0 / 4.0);
        Due.refused(x, "similarity(2)", Due.INDEX, () -> x.similarity(2));
        Due.refused(x, "similarity(-1)", Due.INDEX, () -> x.similarity(-1));
        DraftMerge y = Due.withBase(10);
        y.remove(0, 0);
        Due.isDouble("both empty", y.similarity(0), 1.0);
        Due.isDouble("one empty", y.similarity(1), 0.0);
    }
}
