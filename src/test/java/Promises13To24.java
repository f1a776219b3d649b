import java.util.function.Supplier;

/** The sentences of the promises 13 to 24: the merged text, its conflicts, accepting it, and how similar it is. */
final class Promises13To24 {
    private static final String UNDOABLE = "Undoable.";
    private static final String NUMBER = "Returns the number of the block.";
    private static final String POSITION = "position: the number of blocks before it";
    private static final String NO_BLOCK = "Throws IndexOutOfBoundsException if there is no such block";
    private static final String CONFLICT = "conflict: its number";
    private static final String NO_CONFLICT = "Throws IndexOutOfBoundsException if there is no such conflict";
    private static final String NO_DRAFT = "Throws IndexOutOfBoundsException if there is no such draft";
    private static final String RATIO = "Returns the number of blocks that are in both, with the same content, as a double, "
            + "divided by the number of blocks that are in at least one of both, as a double; 1.0 if both are empty.";

    private Promises13To24() {
    }

    static void check() {
        mergedSize();
        mergedBlock();
        mergedContent();
        conflicts();
        conflictBlock();
        conflictKind();
        choose();
        choiceStays();
        choiceOfEachKindStays();
        chooseBounds();
        prefer();
        open();
        accept();
        acceptNumbers();
        acceptRemovesChoices();
        acceptRefused();
        acceptUndoable();
        accepted();
        similarity();
        similarityCounts();
    }

    private static DraftMerge three() {
        return Due.withBase(10, 20, 30);
    }

    /** The merged text is 2:30 3:40 0:11 1:20; each draft has blocks that the other one has not. */
    private static DraftMerge fourMerged() {
        DraftMerge x = three();
        Due.write(x, "0m2>0;0i1=40;1e0=11");
        x.run();
        return x;
    }

    /** The most numbers that a merged text can have: 15 new blocks in each draft. */
    private static DraftMerge thirtyMerged() {
        DraftMerge x = new DraftMerge();
        for (int number = 0; number < 30; number++) {
            x.insert(number % 2, 0, 10 + number);
        }
        return x;
    }

    /** Three conflicts: 0/2, 1/1, 1/3. */
    private static DraftMerge threeConflicts() {
        DraftMerge x = Due.withBase(10, 20, 30, 40);
        Due.write(x, "0r0;1e0=11;0m0>2;1m1>0;0e2=21;1e0=22");
        x.run();
        return x;
    }

    private static DraftMerge editedTwice() {
        DraftMerge x = three();
        x.edit(0, 0, 11);
        x.edit(1, 0, 12);
        return x;
    }

    private static void mergedSize() {
        Due.says("Promise 13", "Returns the number of blocks of the merged text.");
        Due.is("mergedSize of nothing", new DraftMerge().mergedSize(), 0);
        Due.is("mergedSize of the base", three().mergedSize(), 3);
        Due.is("mergedSize with a new block", fourMerged().mergedSize(), 4);
        Due.is("mergedSize of 30 new blocks", thirtyMerged().mergedSize(), 30);
        DraftMerge x = Due.withBase(10);
        x.remove(1, 0);
        Due.is("mergedSize when all is removed", x.mergedSize(), 0);
        x.edit(0, 0, 11);
        Due.is("mergedSize when it is removed or edited", x.mergedSize(), 1);
        x.prefer(1);
        Due.is("mergedSize when it is removed by the preferred draft", x.mergedSize(), 0);
    }

    private static void mergedBlock() {
        Due.says("Promise 14", "Returns the number of a block of the merged text.");
        int[] numbers = {2, 3, 0, 1};
        for (int position = 0; position < 4; position++) {
            Due.is("mergedBlock", fourMerged().mergedBlock(position), numbers[position]);
        }
        Due.says("Promise 14", NUMBER);
        DraftMerge x = thirtyMerged();
        Due.is("mergedBlock of the last number", x.mergedBlock(0), 29);
        Due.is("mergedBlock of the first number", x.mergedBlock(29), 0);
        Due.says("Promise 14", POSITION);
        Due.bounds(Promises13To24::thirtyMerged, "mergedBlock", Due.INDEX, 0, 29, DraftMerge::mergedBlock);
        Due.says("Promise 14", NO_BLOCK);
        Due.bounds(Promises13To24::fourMerged, "mergedBlock", Due.INDEX, 0, 3, DraftMerge::mergedBlock);
        noneMerged("mergedBlock", DraftMerge::mergedBlock);
    }

    private static void mergedContent() {
        Due.says("Promise 15", "Returns the content of a block of the merged text.");
        int[] contents = {30, 40, 11, 20};
        for (int position = 0; position < 4; position++) {
            Due.is("mergedContent", fourMerged().mergedContent(position), contents[position]);
        }
        Due.says("Promise 15", "Returns the content.");
        DraftMerge x = Due.withBase(0, 99);
        Due.is("mergedContent of 0", x.mergedContent(0), 0);
        Due.is("mergedContent of 99", x.mergedContent(1), 99);
        Due.says("Promise 15", POSITION);
        Due.bounds(Promises13To24::thirtyMerged, "mergedContent", Due.INDEX, 0, 29, DraftMerge::mergedContent);
        Due.says("Promise 15", NO_BLOCK);
        Due.bounds(Promises13To24::fourMerged, "mergedContent", Due.INDEX, 0, 3, DraftMerge::mergedContent);
        noneMerged("mergedContent", DraftMerge::mergedContent);
    }

    /** Nothing is merged: of nothing, and of a block of the base that a draft removes. */
    private static void noneMerged(String call, Due.Call doCall) {
        DraftMerge x = new DraftMerge();
        Due.refused(x, call + "(0) of nothing", Due.INDEX, () -> doCall.with(x, 0));
        DraftMerge y = Due.withBase(10);
        Due.answered(call + "(0) of one block", () -> doCall.with(y, 0));
        y.remove(0, 0);
        Due.refused(y, call + "(0) of a block that is not merged", Due.INDEX, () -> doCall.with(y, 0));
    }

    private static void conflicts() {
        Due.says("Promise 16", "Returns the number of conflicts.");
        Due.is("conflicts of nothing", new DraftMerge().conflicts(), 0);
        Due.is("conflicts when nothing is changed", three().conflicts(), 0);
        Due.is("conflicts when one block is edited twice", editedTwice().conflicts(), 1);
        Due.is("conflicts about two blocks", threeConflicts().conflicts(), 3);
        DraftMerge x = TermsMerging.mostConflicts();
        Due.is("the most conflicts", x.conflicts(), 19);
        x.choose(18, 0);
        Due.is("conflicts with a choice", x.conflicts(), 19);
    }

    private static void conflictBlock() {
        Due.says("Promise 17", "Returns the block of a conflict.");
        DraftMerge x = threeConflicts();
        Due.is("conflictBlock(0)", x.conflictBlock(0), 0);
        Due.is("conflictBlock(1)", x.conflictBlock(1), 1);
        Due.is("conflictBlock(2)", x.conflictBlock(2), 1);
        Due.says("Promise 17", NUMBER);
        DraftMerge most = TermsMerging.mostConflicts();
        Due.is("conflictBlock of the first", most.conflictBlock(0), 0);
        Due.is("conflictBlock of the last", most.conflictBlock(18), 9);
        conflictNumbers("Promise 17", "conflictBlock", DraftMerge::conflictBlock);
    }

    private static void conflictKind() {
        Due.says("Promise 18", "Returns the kind of a conflict.");
        DraftMerge x = threeConflicts();
        Due.is("conflictKind(0)", x.conflictKind(0), 2);
        Due.is("conflictKind(1)", x.conflictKind(1), 1);
        Due.is("conflictKind(2)", x.conflictKind(2), 3);
        Due.says("Promise 18", "Returns the kind, 1 to 3.");
        DraftMerge most = TermsMerging.mostConflicts();
        Due.is("conflictKind of the first", most.conflictKind(0), 1);
        Due.is("conflictKind of the last", most.conflictKind(18), 3);
        conflictNumbers("Promise 18", "conflictKind", DraftMerge::conflictKind);
    }

    private static void conflictNumbers(String promise, String call, Due.Call doCall) {
        Due.says(promise, CONFLICT);
        Due.bounds(Promises13To24::threeConflicts, call, Due.INDEX, 0, 2, doCall);
        Due.bounds(TermsMerging::mostConflicts, call, Due.INDEX, 0, 18, doCall);
        Due.says(promise, NO_CONFLICT);
        Due.bounds(Promises13To24::editedTwice, call, Due.INDEX, 0, 0, doCall);
        DraftMerge none = three();
        Due.refused(none, call + "(0) without a conflict", Due.INDEX, () -> doCall.with(none, 0));
        DraftMerge gone = editedTwice();
        gone.edit(0, 0, 12);
        Due.refused(gone, call + "(0) when the conflict has disappeared", Due.INDEX, () -> doCall.with(gone, 0));
    }

    private static void choose() {
        Due.says("Promise 19", "Sets the choice for the block and the kind of a conflict.");
        DraftMerge x = threeConflicts();
        Due.isText("merged, preferred 0", Due.merged(x), "2:30 3:40 1:21");
        x.choose(0, 1);
        Due.isText("0 as in the draft that edits it", Due.merged(x), "0:11 2:30 3:40 1:21");
        x.choose(1, 1);
        Due.isText("1 with the content of the draft 1", Due.merged(x), "0:11 2:30 3:40 1:22");
        x.choose(2, 1);
        Due.isText("1 at the place of the draft 1", Due.merged(x), "1:22 0:11 2:30 3:40");
        Due.is("open", x.open(), 0);
        x.choose(0, 0);
        Due.isText("0 as in the draft that removes it", Due.merged(x), "1:22 2:30 3:40");
        Due.says("Promise 19", "Returns the previous choice; NONE if there was none.");
        DraftMerge y = threeConflicts();
        Due.is("choose(2, 0) for the first time", y.choose(2, 0), DraftMerge.NONE);
        Due.is("choose(2, 1) after 0", y.choose(2, 1), 0);
        Due.is("choose(2, NONE) after 1", y.choose(2, DraftMerge.NONE), 1);
        Due.is("choose(2, NONE) after NONE", y.choose(2, DraftMerge.NONE), DraftMerge.NONE);
        Due.is("choose(1, 0) of the same block", y.choose(1, 0), DraftMerge.NONE);
        y.prefer(1);
        Due.is("choose(0, 0): the preferred draft is no choice", y.choose(0, 0), DraftMerge.NONE);
        choicesOfMost();
    }

    private static void choicesOfMost() {
        DraftMerge x = TermsMerging.mostConflicts();
        for (int conflict = 0; conflict < 19; conflict++) {
            Due.is("choose", x.choose(conflict, conflict % 2), DraftMerge.NONE);
        }
        Due.is("open", x.open(), 0);
        for (int conflict = 0; conflict < 19; conflict++) {
            Due.is("choose once more", x.choose(conflict, 1 - conflict % 2), conflict % 2);
        }
    }

    private static void choiceStays() {
        Due.says("Promise 19", "(It stays if the conflict disappears, and counts again if it comes back.)");
        DraftMerge x = editedTwice();
        x.choose(0, 1);
        x.edit(0, 0, 12);
        Due.is("conflicts when it has disappeared", x.conflicts(), 0);
        x.edit(0, 0, 13);
        Due.is("open when it has come back", x.open(), 0);
        Due.isText("merged when it has come back", Due.merged(x), "0:12 1:20 2:30");
        Due.is("choose when it has come back", x.choose(0, 0), 1);
        x.remove(0, 0);
        Due.is("open of another kind about the block", x.open(), 1);
        x.undo();
        Due.is("open of the kind 1 again", x.open(), 0);
        Due.isText("merged", Due.merged(x), "0:13 1:20 2:30");
        DraftMerge y = editedTwice();
        y.choose(0, 1);
        y.edit(0, 0, 10);
        y.edit(1, 0, 10);
        y.addBase(40);
        y.edit(0, 0, 11);
        y.edit(1, 0, 12);
        Due.is("choose when it has come back after addBase", y.choose(0, DraftMerge.NONE), 1);
    }

    /** The conflict of each kind disappears in each way, is asked for meanwhile, and comes back. */
    private static void choiceOfEachKindStays() {
        Due.says("Promise 19", "(It stays if the conflict disappears, and counts again if it comes back.)");
        comesBack("edited as in the other draft", "0e0=11;1e0=12", "0e0=12", "0e0=11");
        comesBack("edited back in the draft 0", "0e0=11;1e0=12", "0e0=10", "0e0=11");
        comesBack("edited back in the draft 1", "0e0=11;1e0=12", "1e0=10", "1e0=12");
        comesBack("edited back in both", "0e0=11;1e0=12", "0e0=10;1e0=10", "0e0=11;1e0=12");
        comesBack("edited back, removed in the draft 0", "0r0;1e0=12", "1e0=10", "1e0=12");
        comesBack("edited back, removed in the draft 1", "1r0;0e0=12", "0e0=10", "0e0=12");
        comesBack("moved back in the draft 0", "0m2>0;1m2>1", "0m0>2", "0m2>0");
        comesBack("moved back in the draft 1", "0m2>0;1m2>1", "1m1>2", "1m2>1");
        comesBack("moved behind the same block", "0m2>0;1m2>1", "0m0>1", "0m1>0");
        DraftMerge x = editedTwice();
        x.choose(0, 1);
        x.remove(0, 0);
        Due.isText("another kind meanwhile", Due.conflicts(x), "0/2");
        x.undo();
        Due.is("the choice", x.choose(0, 0), 1);
    }

    private static void comesBack(String way, String make, String end, String again) {
        for (int draft = 0; draft < 2; draft++) {
            DraftMerge x = three();
            x.prefer(1 - draft);
            Due.write(x, make);
            x.run();
            Due.is("choose, " + way, x.choose(0, draft), DraftMerge.NONE);
            String merged = Due.merged(x);
            Due.write(x, end);
            x.run();
            Due.is("conflicts, " + way, x.conflicts(), 0);
            Due.is("open, " + way, x.open(), 0);
            Due.write(x, again);
            x.run();
            Due.is("conflicts again, " + way, x.conflicts(), 1);
            Due.is("open again, " + way, x.open(), 0);
            Due.isText("merged again, " + way, Due.merged(x), merged);
            Due.is("choose again, " + way, x.choose(0, DraftMerge.NONE), draft);
        }
    }

    private static void chooseBounds() {
        conflictNumbers("Promise 19", "choose", (x, c) -> x.choose(c, 0));
        Due.says("Promise 19", "draft: 0 or 1, or NONE for no choice");
        Due.bounds(Promises13To24::editedTwice, "choose of the draft", Due.ARGUMENT, DraftMerge.NONE, 1, (x, d) -> {
            x.choose(0, d);
            Due.is("open", x.open(), d == DraftMerge.NONE ? 1 : 0);
            Due.is("mergedContent(0)", x.mergedContent(0), d == 1 ? 12 : 11);
        });
        Due.says("Promise 19", "Throws IllegalArgumentException if draft is neither 0 nor 1 nor NONE");
        DraftMerge x = editedTwice();
        Due.refused(x, "choose(0, 2)", Due.ARGUMENT, () -> x.choose(0, 2));
        Due.refused(x, "choose(0, -2)", Due.ARGUMENT, () -> x.choose(0, -2));
        Due.is("choose(0, 0)", x.choose(0, 0), DraftMerge.NONE);
        Due.says("Promise 19", UNDOABLE);
        Due.undoable(Promises13To24::editedTwice, "choose", y -> y.choose(0, 1), y -> y.choose(1, 1));
        Due.undoable(Promises13To24::editedTwice, "choose of NONE", y -> y.choose(0, -1), y -> y.choose(0, 2));
        x.choose(0, 1);
        x.undo();
        Due.is("the choice after undo", x.choose(0, 1), 0);
    }

    private static void prefer() {
        Due.says("Promise 20", "Sets the preferred draft.");
        DraftMerge x = editedTwice();
        x.prefer(1);
        Due.is("mergedContent(0), preferred 1", x.mergedContent(0), 12);
        x.prefer(0);
        Due.is("mergedContent(0), preferred 0", x.mergedContent(0), 11);
        Due.is("open", x.open(), 1);
        Due.says("Promise 20", "draft: 0 or 1");
        Due.bounds(Promises13To24::editedTwice, "prefer", Due.INDEX, 0, 1, (y, d) -> {
            y.prefer(d);
            Due.is("mergedContent(0)", y.mergedContent(0), 11 + d);
        });
        Due.says("Promise 20", "Returns the preferred draft before the call.");
        DraftMerge y = new DraftMerge();
        Due.is("prefer(1) at first", y.prefer(1), 0);
        Due.is("prefer(1) after 1", y.prefer(1), 1);
        Due.is("prefer(0) after 1", y.prefer(0), 1);
        Due.is("prefer(0) after 0", y.prefer(0), 0);
        Due.says("Promise 20", NO_DRAFT);
        Due.bounds(DraftMerge::new, "prefer", Due.INDEX, 0, 1, DraftMerge::prefer);
        Due.says("Promise 20", UNDOABLE);
        Due.undoable(Promises13To24::editedTwice, "prefer", z -> z.prefer(1), z -> z.prefer(2));
        Due.undoable(DraftMerge::new, "prefer of the preferred draft", z -> z.prefer(0), z -> z.prefer(-1));
        y.prefer(1);
        y.undo();
        Due.is("the preferred draft after undo", y.prefer(0), 0);
    }

    private static void open() {
        Due.says("Promise 21", "Returns the number of conflicts for which there is no choice.");
        Due.is("open without a conflict", three().open(), 0);
        DraftMerge x = TermsMerging.mostConflicts();
        Due.is("open of the most conflicts", x.open(), 19);
        for (int conflict = 18; conflict >= 0; conflict--) {
            x.choose(conflict, conflict % 2);
            Due.is("open", x.open(), conflict);
        }
        x.choose(18, DraftMerge.NONE);
        Due.is("open when a choice is taken back", x.open(), 1);
        x.prefer(1);
        Due.is("open when a draft is preferred", x.open(), 1);
        Due.is("conflicts", x.conflicts(), 19);
        DraftMerge y = editedTwice();
        y.choose(0, 0);
        y.edit(0, 0, 12);
        Due.is("open when the conflict has disappeared", y.open(), 0);
    }

    private static void accept() {
        Due.says("Promise 22", "Makes the merged text the new base: its blocks get the numbers 0, 1, 2 and so on in their "
                + "order, both drafts become like the base, and all choices are removed.");
        DraftMerge x = fourMerged();
        x.accept();
        Due.isText("the draft 0", Due.blocks(x, 0), "0:30 1:40 2:11 3:20");
        Due.isText("the draft 1", Due.blocks(x, 1), "0:30 1:40 2:11 3:20");
        Due.isText("the merged text", Due.merged(x), "0:30 1:40 2:11 3:20");
        Due.isText("the changes", Due.changes(x, 0) + Due.changes(x, 1), "00000000");
        Due.is("conflicts", x.conflicts(), 0);
        Due.says("Promise 22", "Returns the number of blocks of the new base.");
        Due.is("accept of nothing", new DraftMerge().accept(), 0);
        Due.is("accept of four", fourMerged().accept(), 4);
        DraftMerge full = Due.withBase(0, 1, 2, 3, 4, 5, 6, 7, 8, 9);
        Due.is("accept of ten", full.accept(), 10);
        DraftMerge gone = Due.withBase(10);
        gone.remove(0, 0);
        Due.is("accept when all is removed", gone.accept(), 0);
        Due.is("baseSize", gone.baseSize(), 0);
    }

    private static void acceptNumbers() {
        Due.says("Promise 22", "Makes the merged text the new base: its blocks get the numbers 0, 1, 2 and so on in their "
                + "order, both drafts become like the base, and all choices are removed.");
        DraftMerge x = fourMerged();
        x.accept();
        Due.is("the number of a new block", x.insert(0, 0, 5), 4);
        x.accept();
        Due.isText("the draft 1", Due.blocks(x, 1), "0:5 1:30 2:40 3:11 4:20");
        x.edit(1, 4, 30);
        Due.isText("the base has the merged contents", Due.changes(x, 1), "00001");
        x.edit(1, 4, 20);
        Due.isText("the base has the merged contents", Due.changes(x, 1), "00000");
    }

    private static void acceptRemovesChoices() {
        Due.says("Promise 22", "Makes the merged text the new base: its blocks get the numbers 0, 1, 2 and so on in their "
                + "order, both drafts become like the base, and all choices are removed.");
        DraftMerge x = editedTwice();
        x.choose(0, 1);
        x.accept();
        x.edit(0, 0, 13);
        x.edit(1, 0, 14);
        Due.is("open", x.open(), 1);
        Due.is("choose", x.choose(0, 1), DraftMerge.NONE);
        x.edit(1, 0, 12);
        Due.is("conflicts", x.conflicts(), 0);
        x.accept();
        x.edit(0, 0, 15);
        x.edit(1, 0, 16);
        Due.is("the choice of a conflict that had disappeared", x.choose(0, 1), DraftMerge.NONE);
        DraftMerge y = editedTwice();
        y.prefer(1);
        y.choose(0, 0);
        y.accept();
        Due.is("the preferred draft is no choice and stays", y.prefer(0), 1);
        DraftMerge z = fewerConflicts();
        z.accept();
        z.undo();
        Due.is("undo brings the choices back", z.choose(0, 0), 1);
    }

    private static DraftMerge fewerConflicts() {
        DraftMerge x = editedTwice();
        x.choose(0, 1);
        return x;
    }

    private static void acceptRefused() {
        Due.says("Promise 22", "Throws IllegalStateException if there is a conflict without a choice, or the merged text has "
                + "more than 10 blocks");
        DraftMerge x = threeConflicts();
        for (int conflict = 0; conflict < 3; conflict++) {
            Due.refused(x, "accept with " + x.open() + " open conflicts", Due.STATE, x::accept);
            x.choose(conflict, 0);
        }
        Due.is("accept without an open conflict", x.accept(), 3);
        DraftMerge y = Due.withBase(0, 1, 2, 3, 4, 5, 6, 7, 8, 9);
        y.insert(1, 10, 50);
        Due.refused(y, "accept of 11 blocks", Due.STATE, y::accept);
        y.remove(0, 0);
        Due.is("accept of 10 blocks", y.accept(), 10);
        DraftMerge z = thirtyMerged();
        Due.refused(z, "accept of 30 blocks", Due.STATE, z::accept);
        DraftMerge w = Due.withBase(0, 1, 2, 3, 4, 5, 6, 7, 8, 9);
        Due.write(w, "0r0;1e0=50;0i0=51");
        w.run();
        w.choose(0, 1);
        Due.refused(w, "accept of 11 blocks, one of them chosen", Due.STATE, w::accept);
        w.choose(0, 0);
        Due.is("accept of 10 blocks, that one not chosen", w.accept(), 10);
    }

    private static void acceptUndoable() {
        Due.says("Promise 22", UNDOABLE);
        Due.undone(Promises13To24::fourMerged, "accept", DraftMerge::accept);
        Due.undone(DraftMerge::new, "accept of nothing", DraftMerge::accept);
        Due.savesNothing(Promises13To24::editedTwice, "accept", DraftMerge::accept);
        Due.savesNothing(Promises13To24::thirtyMerged, "accept", DraftMerge::accept);
        DraftMerge x = fourMerged();
        x.accept();
        x.undo();
        Due.isText("the draft 0 after undo", Due.blocks(x, 0), "2:30 3:40 0:10 1:20");
        Due.is("the next number after undo", x.insert(1, 0, 5), 4);
    }

    private static void accepted() {
        Due.says("Promise 23", "Returns how often accept() was called without throwing an exception.");
        DraftMerge x = new DraftMerge();
        Due.is("accepted at first", x.accepted(), 0);
        for (int times = 1; times <= 20; times++) {
            x.accept();
            Due.is("accepted", x.accepted(), times);
        }
        x.addBase(10);
        x.edit(0, 0, 11);
        x.edit(1, 0, 12);
        Due.refused(x, "accept", Due.STATE, x::accept);
        Due.is("accepted after a refused call", x.accepted(), 20);
        x.choose(0, 0);
        x.accept();
        Due.is("accepted after another one", x.accepted(), 21);
        x.undo();
        Due.is("accepted, a part of the state, after undo", x.accepted(), 20);
    }

    private static void similarity() {
        Due.says("Promise 24", "Returns how similar the merged text is to a draft.");
        Due.isDouble("similarity(0) of the same", three().similarity(0), 1.0);
        Due.isDouble("similarity(0), one content is another", fourMerged().similarity(0), 3.0 / 4.0);
        Due.isDouble("similarity(1), one block is another", fourMerged().similarity(1), 3.0 / 4.0);
        Due.says("Promise 24", "draft: 0 or 1");
        Supplier<DraftMerge> made = Promises13To24::fourMerged;
        Due.bounds(made, "similarity", Due.INDEX, 0, 1, DraftMerge::similarity);
        Due.says("Promise 24", NO_DRAFT);
        Due.bounds(DraftMerge::new, "similarity", Due.INDEX, 0, 1, DraftMerge::similarity);
    }

    private static void similarityCounts() {
        Due.says("Promise 24", RATIO);
        Due.isDouble("similarity(0), both empty", new DraftMerge().similarity(0), 1.0);
        Due.isDouble("similarity(1), both empty", new DraftMerge().similarity(1), 1.0);
        DraftMerge x = Due.withBase(10);
        x.remove(0, 0);
        Due.isDouble("similarity(0), both empty", x.similarity(0), 1.0);
        Due.isDouble("similarity(1), the merged text empty", x.similarity(1), 0.0);
        x.undo();
        x.edit(1, 0, 11);
        Due.isDouble("similarity(0), another content", x.similarity(0), 0.0);
        Due.isDouble("similarity(1), the same content", x.similarity(1), 1.0);
        DraftMerge y = new DraftMerge();
        y.insert(0, 0, 10);
        Due.isDouble("similarity(1), the draft empty", y.similarity(1), 0.0);
        y.insert(1, 0, 10);
        Due.isDouble("similarity(1), another block with the same content", y.similarity(1), 1.0 / 2.0);
        DraftMerge z = three();
        z.remove(0, 0);
        z.insert(1, 3, 40);
        Due.isDouble("similarity(0), one block more", z.similarity(0), 2.0 / 3.0);
        Due.isDouble("similarity(1), one block less", z.similarity(1), 3.0 / 4.0);
        z.move(0, 0, 1);
        Due.isDouble("similarity(0), another order", z.similarity(0), 2.0 / 3.0);
        DraftMerge most = thirtyMerged();
        Due.isDouble("similarity(0) of 15 and 30", most.similarity(0), 15.0 / 30.0);
        most.remove(1, 0);
        Due.isDouble("similarity(1) of 14 and 29", most.similarity(1), 14.0 / 29.0);
    }
}
