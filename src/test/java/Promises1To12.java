import java.util.function.Supplier;

/** The sentences of the promises 1 to 12: a new object, the base and the drafts. */
final class Promises1To12 {
    private static final String UNDOABLE = "Undoable.";
    private static final String CONTENT = "content: 0 to 99";
    private static final String NUMBER = "Returns the number of the block.";
    private static final String NO_DRAFT = "Throws IndexOutOfBoundsException if there is no such draft";
    private static final String NO_DRAFT_OR_POSITION =
            "Throws IndexOutOfBoundsException if there is no such draft or position";
    private static final String BAD_CONTENT = "Throws IllegalArgumentException if content is out of range";

    private Promises1To12() {
    }

    static void check() {
        newObject();
        addBase();
        addBaseContent();
        addBaseRefused();
        addBaseUndoable();
        edit();
        editBounds();
        editUndoable();
        move();
        moveBounds();
        moveUndoable();
        insert();
        insertBounds();
        insertFull();
        insertUndoable();
        remove();
        removeBounds();
        removeUndoable();
        baseSize();
        size();
        block();
        content();
        change();
        changeBounds();
        moves();
    }

    private interface OnPosition {
        void at(DraftMerge x, int draft, int position);
    }

    private static DraftMerge three() {
        return Due.withBase(10, 20, 30);
    }

    /** The draft 0 has 2 blocks, the draft 1 has 4, and the base has 3. */
    private static DraftMerge twoAndFour() {
        DraftMerge x = three();
        x.remove(0, 0);
        x.insert(1, 0, 40);
        return x;
    }

    /** The number of the block at this position in an object that twoAndFour() has made. */
    private static int numberAt(int draft, int position) {
        if (draft == 0) {
            return position + 1;
        }
        return position == 0 ? 3 : position - 1;
    }

    private static void drafts(String promise, String call, Due.Call doCall) {
        Due.says(promise, "draft: 0 or 1");
        Due.bounds(Promises1To12::twoAndFour, call + " for the draft", Due.INDEX, 0, 1, doCall);
    }

    /** From 0 to the last position in a draft of 2 and in one of 4 blocks; none in an empty one. */
    private static void positions(String promise, String sentence, String call, OnPosition doCall) {
        Due.says(promise, sentence);
        Supplier<DraftMerge> made = Promises1To12::twoAndFour;
        Due.bounds(made, call + " in the draft 0 at", Due.INDEX, 0, 1, (x, p) -> doCall.at(x, 0, p));
        Due.bounds(made, call + " in the draft 1 at", Due.INDEX, 0, 3, (x, p) -> doCall.at(x, 1, p));
        DraftMerge empty = new DraftMerge();
        Due.refused(empty, call + " in an empty draft at 0", Due.INDEX, () -> doCall.at(empty, 0, 0));
        Due.refused(empty, call + " in an empty draft at 0", Due.INDEX, () -> doCall.at(empty, 1, 0));
    }

    private static void contents(String promise, String call, Due.Call doCall) {
        Due.says(promise, CONTENT);
        Due.bounds(Promises1To12::three, call + " of the content", Due.ARGUMENT, 0, 99, doCall);
        Due.says(promise, BAD_CONTENT);
        Due.bounds(Promises1To12::three, call + " of the content", Due.ARGUMENT, 0, 99, doCall);
    }

    private static void newObject() {
        Due.says("Promise 1", "Creates an empty base.");
        DraftMerge x = new DraftMerge();
        Due.is("baseSize", x.baseSize(), 0);
        Due.is("size(0)", x.size(0), 0);
        Due.is("size(1)", x.size(1), 0);
        Due.is("mergedSize", x.mergedSize(), 0);
        Due.is("conflicts", x.conflicts(), 0);
        Due.is("accepted", x.accepted(), 0);
        Due.is("savedStates", x.savedStates(), 0);
        Due.refused(x, "block(0, 0)", Due.INDEX, () -> x.block(0, 0));
        Due.refused(x, "change(0, 0)", Due.INDEX, () -> x.change(0, 0));
        x.addBase(10);
        Due.is("baseSize of another new object", new DraftMerge().baseSize(), 0);
    }

    private static void addBase() {
        Due.says("Promise 2", "Adds a block at the end of the base and of both drafts.");
        DraftMerge x = new DraftMerge();
        x.addBase(10);
        Due.isText("the draft 0 of one", Due.blocks(x, 0), "0:10");
        Due.isText("the draft 1 of one", Due.blocks(x, 1), "0:10");
        x.addBase(5);
        Due.isText("the draft 0 of two", Due.blocks(x, 0), "0:10 1:5");
        Due.isText("the draft 1 of two", Due.blocks(x, 1), "0:10 1:5");
        Due.isText("both are of the base", Due.changes(x, 0) + Due.changes(x, 1), "0000");
        Due.says("Promise 2", NUMBER);
        for (int number = 2; number < 10; number++) {
            Due.is("addBase", x.addBase(99 - number), number);
        }
        Due.is("block(0, 9)", x.block(0, 9), 9);
        Due.is("content(1, 9)", x.content(1, 9), 90);
    }

    private static void addBaseContent() {
        contents("Promise 2", "addBase", (x, c) -> {
            Due.is("addBase", x.addBase(c), 3);
            Due.is("content(0, 3)", x.content(0, 3), c);
            Due.is("mergedContent(3)", x.mergedContent(3), c);
        });
    }

    private static void addBaseRefused() {
        Due.says("Promise 2", "Throws IllegalStateException if the base has 10 blocks, or a block was inserted since the "
                + "base became a new one, or a draft is changed");
        DraftMerge x = Due.withBase(0, 1, 2, 3, 4, 5, 6, 7, 8);
        Due.is("addBase to 9 blocks", x.addBase(9), 9);
        Due.refused(x, "addBase to 10 blocks", Due.STATE, () -> x.addBase(9));
        for (int draft = 0; draft < 2; draft++) {
            int d = draft;
            DraftMerge y = three();
            y.insert(d, 3, 40);
            Due.refused(y, "addBase after an insert", Due.STATE, () -> y.addBase(50));
            y.remove(d, 3);
            Due.refused(y, "addBase after an insert that is removed", Due.STATE, () -> y.addBase(50));
            y.undo();
            y.undo();
            Due.is("addBase after an insert that is undone", y.addBase(50), 3);
            y.insert(d, 0, 60);
            y.accept();
            Due.is("addBase when the base is a new one since the insert", y.addBase(70), 5);
            y.edit(d, 5, 71);
            Due.refused(y, "addBase with an edited block", Due.STATE, () -> y.addBase(80));
            y.undo();
            y.move(d, 4, 5);
            Due.refused(y, "addBase with a moved block", Due.STATE, () -> y.addBase(80));
            y.undo();
            y.remove(d, 5);
            Due.refused(y, "addBase with a removed block", Due.STATE, () -> y.addBase(80));
            y.undo();
            Due.is("addBase with nothing changed", y.addBase(80), 6);
        }
        DraftMerge empty = Due.withBase(10);
        Due.write(empty, "0r0;1r0");
        empty.run();
        Due.refused(empty, "addBase with the only block removed in both", Due.STATE, () -> empty.addBase(20));
        empty.accept();
        Due.is("addBase when that is accepted", empty.addBase(20), 0);
    }

    private static void addBaseUndoable() {
        Due.says("Promise 2", UNDOABLE);
        Due.undoable(Promises1To12::three, "addBase", x -> x.addBase(40), x -> x.addBase(100));
        Due.undoable(DraftMerge::new, "addBase to nothing", x -> x.addBase(40), x -> x.addBase(-1));
    }

    private static void edit() {
        Due.says("Promise 3", "Changes the content of a block in a draft.");
        DraftMerge x = twoAndFour();
        x.edit(0, 1, 0);
        x.edit(1, 0, 99);
        Due.isText("the draft 0", Due.blocks(x, 0), "1:20 2:0");
        Due.isText("the draft 1", Due.blocks(x, 1), "3:99 0:10 1:20 2:30");
        Due.says("Promise 3", "Returns the previous content.");
        Due.is("edit of 0", x.edit(0, 1, 99), 0);
        Due.is("edit of 99", x.edit(0, 1, 98), 99);
        Due.is("edit to the same", x.edit(0, 1, 98), 98);
        Due.is("edit of a new block", x.edit(1, 0, 1), 99);
        Due.is("edit of the block in the other draft", x.edit(1, 3, 1), 30);
    }

    private static void editBounds() {
        drafts("Promise 3", "edit", (x, d) -> x.edit(d, 0, 5));
        positions("Promise 3", "position: the position of the block", "edit", (x, d, p) -> {
            x.edit(d, p, 5);
            Due.is("content", x.content(d, p), 5);
        });
        Due.says("Promise 3", NO_DRAFT_OR_POSITION);
        DraftMerge x = twoAndFour();
        Due.refused(x, "edit(0, 2, 5), a position of the draft 1 alone", Due.INDEX, () -> x.edit(0, 2, 5));
        Due.is("edit(1, 2, 5)", x.edit(1, 2, 5), 20);
        Due.refused(x, "edit(2, 2, 5)", Due.INDEX, () -> x.edit(2, 2, 5));
        contents("Promise 3", "edit", (y, c) -> {
            Due.is("edit", y.edit(1, 2, c), 30);
            Due.is("content(1, 2)", y.content(1, 2), c);
        });
    }

    private static void editUndoable() {
        Due.says("Promise 3", UNDOABLE);
        Due.undoable(Promises1To12::three, "edit", x -> x.edit(1, 2, 5), x -> x.edit(1, 3, 5));
        Due.undoable(Promises1To12::three, "edit to the same", x -> x.edit(0, 0, 10), x -> x.edit(0, 0, 100));
    }

    private static void move() {
        Due.says("Promise 4", "Moves a block in a draft.");
        DraftMerge x = Due.withBase(10, 20, 30, 40);
        x.move(0, 0, 3);
        Due.isText("from the first to the last", Due.blocks(x, 0), "1:20 2:30 3:40 0:10");
        x.move(0, 3, 0);
        Due.isText("from the last to the first", Due.blocks(x, 0), "0:10 1:20 2:30 3:40");
        x.move(0, 1, 2);
        Due.isText("one position on", Due.blocks(x, 0), "0:10 2:30 1:20 3:40");
        x.move(0, 3, 3);
        Due.isText("to where it is", Due.blocks(x, 0), "0:10 2:30 1:20 3:40");
        Due.isText("the other draft", Due.blocks(x, 1), "0:10 1:20 2:30 3:40");
        Due.says("Promise 4", NUMBER);
        Due.is("move(0, 1, 0)", x.move(0, 1, 0), 2);
        Due.is("move(0, 0, 0)", x.move(0, 0, 0), 2);
        Due.is("move(1, 3, 1)", x.move(1, 3, 1), 3);
        x.insert(1, 0, 50);
        Due.is("move of a new block", x.move(1, 0, 4), 4);
    }

    private static void moveBounds() {
        drafts("Promise 4", "move", (x, d) -> x.move(d, 0, 1));
        positions("Promise 4", "from: the position of the block", "move from", (x, d, p) -> {
            Due.is("move", x.move(d, p, 0), numberAt(d, p));
            Due.is("block(d, 0)", x.block(d, 0), numberAt(d, p));
        });
        positions("Promise 4", "to: the position that it has after the call", "move to", (x, d, p) -> {
            Due.is("move", x.move(d, 0, p), numberAt(d, 0));
            Due.is("block(d, to)", x.block(d, p), numberAt(d, 0));
        });
        Due.says("Promise 4", "Throws IndexOutOfBoundsException if there is no such draft, or the draft has no block at one "
                + "of these positions");
        DraftMerge x = twoAndFour();
        Due.refused(x, "move(0, 1, 2)", Due.INDEX, () -> x.move(0, 1, 2));
        Due.refused(x, "move(0, 2, 1)", Due.INDEX, () -> x.move(0, 2, 1));
        Due.refused(x, "move(0, 2, 2)", Due.INDEX, () -> x.move(0, 2, 2));
        Due.refused(x, "move(-1, 0, 0)", Due.INDEX, () -> x.move(-1, 0, 0));
        Due.is("move(1, 3, 2)", x.move(1, 3, 2), 2);
    }

    private static void moveUndoable() {
        Due.says("Promise 4", UNDOABLE);
        Due.undoable(Promises1To12::three, "move", x -> x.move(0, 2, 0), x -> x.move(0, 3, 0));
        Due.undoable(Promises1To12::three, "move to where it is", x -> x.move(1, 2, 2), x -> x.move(1, 2, 3));
    }

    private static void insert() {
        Due.says("Promise 5", "Inserts a new block into a draft.");
        DraftMerge x = three();
        x.insert(0, 0, 40);
        x.insert(0, 4, 50);
        x.insert(0, 2, 60);
        Due.isText("the draft 0", Due.blocks(x, 0), "3:40 0:10 5:60 1:20 2:30 4:50");
        Due.isText("the draft 1", Due.blocks(x, 1), "0:10 1:20 2:30");
        Due.is("baseSize", x.baseSize(), 3);
        Due.says("Promise 5", NUMBER);
        Due.is("insert", x.insert(1, 3, 70), 6);
        Due.is("insert", x.insert(0, 0, 70), 7);
        Due.is("insert into a new object", new DraftMerge().insert(1, 0, 5), 0);
    }

    private static void insertBounds() {
        drafts("Promise 5", "insert", (x, d) -> x.insert(d, 0, 5));
        Due.says("Promise 5", "position: the position that it has after the call, 0 to the number of blocks of the draft");
        OnPosition doCall = (x, d, p) -> Due.is("block", x.insert(d, p, 5), x.block(d, p));
        Supplier<DraftMerge> made = Promises1To12::twoAndFour;
        Due.bounds(made, "insert into the draft 0 at", Due.INDEX, 0, 2, (x, p) -> doCall.at(x, 0, p));
        Due.bounds(made, "insert into the draft 1 at", Due.INDEX, 0, 4, (x, p) -> doCall.at(x, 1, p));
        Due.bounds(DraftMerge::new, "insert into an empty draft at", Due.INDEX, 0, 0, (x, p) -> doCall.at(x, 1, p));
        Due.says("Promise 5", "Throws IndexOutOfBoundsException if there is no such draft, or position is out of range");
        DraftMerge x = twoAndFour();
        Due.refused(x, "insert(0, 3, 5), a position of the draft 1 alone", Due.INDEX, () -> x.insert(0, 3, 5));
        Due.refused(x, "insert(2, 0, 5)", Due.INDEX, () -> x.insert(2, 0, 5));
        Due.is("insert(1, 3, 5)", x.insert(1, 3, 5), 4);
        contents("Promise 5", "insert", (y, c) -> {
            Due.is("insert", y.insert(0, 3, c), 3);
            Due.is("content(0, 3)", y.content(0, 3), c);
        });
    }

    private static void insertFull() {
        Due.says("Promise 5", "Throws IllegalStateException if the draft has 15 blocks, or there are 30 numbers");
        for (int draft = 0; draft < 2; draft++) {
            int d = draft;
            DraftMerge x = new DraftMerge();
            for (int number = 0; number < 15; number++) {
                Due.is("insert into " + number + " blocks", x.insert(d, 0, 5), number);
            }
            Due.refused(x, "insert into 15 blocks", Due.STATE, () -> x.insert(d, 0, 5));
            for (int number = 15; number < 29; number++) {
                x.insert(1 - d, 0, 5);
            }
            Due.is("insert of the 30th number", x.insert(1 - d, 0, 5), 29);
            x.remove(d, 0);
            x.remove(1 - d, 0);
            Due.refused(x, "insert of a 31st number", Due.STATE, () -> x.insert(d, 0, 5));
            Due.refused(x, "insert of a 31st number", Due.STATE, () -> x.insert(1 - d, 0, 5));
        }
    }

    private static void insertUndoable() {
        Due.says("Promise 5", UNDOABLE);
        Due.undoable(Promises1To12::three, "insert", x -> x.insert(0, 3, 5), x -> x.insert(0, 4, 5));
        DraftMerge x = three();
        x.insert(1, 0, 5);
        x.undo();
        Due.is("the number after undo", x.insert(0, 0, 5), 3);
    }

    private static void remove() {
        Due.says("Promise 6", "Removes a block from a draft.");
        DraftMerge x = three();
        x.remove(0, 2);
        Due.isText("the last", Due.blocks(x, 0), "0:10 1:20");
        x.remove(0, 0);
        Due.isText("the first", Due.blocks(x, 0), "1:20");
        x.remove(0, 0);
        Due.isText("the only one", Due.blocks(x, 0), "");
        Due.isText("the other draft", Due.blocks(x, 1), "0:10 1:20 2:30");
        Due.is("baseSize", x.baseSize(), 3);
        Due.says("Promise 6", NUMBER);
        Due.is("remove(1, 1)", x.remove(1, 1), 1);
        Due.is("remove(1, 1)", x.remove(1, 1), 2);
        x.insert(1, 0, 40);
        Due.is("remove of a new block", x.remove(1, 0), 3);
    }

    private static void removeBounds() {
        drafts("Promise 6", "remove", (x, d) -> x.remove(d, 0));
        positions("Promise 6", "position: the position of the block", "remove", (x, d, p) ->
                Due.is("remove", x.remove(d, p), numberAt(d, p)));
        Due.says("Promise 6", NO_DRAFT_OR_POSITION);
        DraftMerge x = twoAndFour();
        Due.is("remove(0, 1)", x.remove(0, 1), 2);
        Due.refused(x, "remove(0, 1)", Due.INDEX, () -> x.remove(0, 1));
        Due.is("remove(0, 0)", x.remove(0, 0), 1);
        Due.refused(x, "remove(0, 0)", Due.INDEX, () -> x.remove(0, 0));
        Due.refused(x, "remove(2, 0)", Due.INDEX, () -> x.remove(2, 0));
    }

    private static void removeUndoable() {
        Due.says("Promise 6", UNDOABLE);
        Due.undoable(Promises1To12::three, "remove", x -> x.remove(1, 1), x -> x.remove(1, 3));
    }

    private static void baseSize() {
        Due.says("Promise 7", "Returns the number of blocks of the base.");
        DraftMerge x = new DraftMerge();
        Due.is("baseSize of nothing", x.baseSize(), 0);
        for (int count = 1; count <= 10; count++) {
            x.addBase(count);
            Due.is("baseSize", x.baseSize(), count);
        }
        Due.write(x, "0r0;1r0;1i0=5;0r0;0r0");
        x.run();
        Due.is("baseSize when the drafts are changed", x.baseSize(), 10);
        x.accept();
        Due.is("baseSize after accept", x.baseSize(), 8);
        x.undo();
        Due.is("baseSize after undo", x.baseSize(), 10);
    }

    private static void size() {
        drafts("Promise 8", "size", (x, d) -> Due.is("size", x.size(d), d == 0 ? 2 : 4));
        Due.says("Promise 8", "Returns the number of blocks of a draft.");
        DraftMerge x = Due.withBase(10);
        Due.is("size(0)", x.size(0), 1);
        x.remove(0, 0);
        Due.is("size(0) of nothing", x.size(0), 0);
        Due.is("size(1)", x.size(1), 1);
        Due.says("Promise 8", "Returns the number of blocks.");
        for (int count = 2; count <= 15; count++) {
            x.insert(1, 0, 5);
            Due.is("size(1)", x.size(1), count);
        }
        Due.says("Promise 8", NO_DRAFT);
        Due.bounds(DraftMerge::new, "size", Due.INDEX, 0, 1, (y, d) -> Due.is("size of nothing", y.size(d), 0));
    }

    private static void block() {
        drafts("Promise 9", "block", (x, d) -> Due.is("block", x.block(d, 1), d == 0 ? 2 : 0));
        positions("Promise 9", "position: the position", "block", (x, d, p) ->
                Due.is("block", x.block(d, p), numberAt(d, p)));
        Due.says("Promise 9", "Returns the number of the block at a position of a draft.");
        DraftMerge x = twoAndFour();
        Due.is("block(0, 0)", x.block(0, 0), 1);
        Due.is("block(1, 0)", x.block(1, 0), 3);
        Due.is("block(1, 3)", x.block(1, 3), 2);
        Due.says("Promise 9", NUMBER);
        DraftMerge y = usedNumbers();
        Due.is("block of the number 0", y.block(1, 0), 0);
        Due.is("block of the number 29", y.block(0, 0), 29);
        Due.says("Promise 9", NO_DRAFT_OR_POSITION);
        Due.refused(x, "block(0, 2), a position of the draft 1 alone", Due.INDEX, () -> x.block(0, 2));
        Due.refused(x, "block(2, 0)", Due.INDEX, () -> x.block(2, 0));
        Due.refused(x, "block(-1, -1)", Due.INDEX, () -> x.block(-1, -1));
    }

    private static DraftMerge usedNumbers() {
        DraftMerge x = new DraftMerge();
        x.insert(1, 0, 5);
        for (int number = 1; number < 29; number++) {
            x.insert(0, 0, 6);
            x.remove(0, 0);
        }
        x.insert(0, 0, 7);
        return x;
    }

    private static void content() {
        drafts("Promise 10", "content", (x, d) -> Due.is("content", x.content(d, 1), d == 0 ? 30 : 10));
        positions("Promise 10", "position: the position", "content", (x, d, p) ->
                Due.is("content", x.content(d, p), d == 0 ? 20 + 10 * p : p == 0 ? 40 : 10 * p));
        Due.says("Promise 10", "Returns the content of the block at a position of a draft.");
        DraftMerge x = twoAndFour();
        Due.is("content(0, 0)", x.content(0, 0), 20);
        Due.is("content(1, 0)", x.content(1, 0), 40);
        Due.is("content(1, 3)", x.content(1, 3), 30);
        Due.says("Promise 10", "Returns the content.");
        x.edit(1, 3, 0);
        Due.is("content of 0", x.content(1, 3), 0);
        x.edit(1, 3, 99);
        Due.is("content of 99", x.content(1, 3), 99);
        Due.says("Promise 10", NO_DRAFT_OR_POSITION);
        Due.refused(x, "content(0, 2), a position of the draft 1 alone", Due.INDEX, () -> x.content(0, 2));
        Due.refused(x, "content(2, 0)", Due.INDEX, () -> x.content(2, 0));
        Due.refused(x, "content(-1, -1)", Due.INDEX, () -> x.content(-1, -1));
    }

    private static void change() {
        Due.says("Promise 11", "Tells what a draft does with a block of the base.");
        DraftMerge x = Due.withBase(10, 20, 30, 40, 50);
        Due.write(x, "0e1=21;0m2>4;0m2>4;0e4=41;0r0;1m0>1");
        x.run();
        Due.isText("the draft 0", Due.blocks(x, 0), "1:21 4:50 2:30 3:41");
        Due.isText("the draft 1", Due.blocks(x, 1), "1:20 0:10 2:30 3:40 4:50");
        Due.isText("what the draft 0 does", Due.changes(x, 0), "41012");
        Due.isText("what the draft 1 does", Due.changes(x, 1), "02000");
        Due.says("Promise 11", "Returns 0 nothing, 1 it edits it, 2 it moves it, 3 both, 4 it removes it.");
        Due.isText("kinds of changes", Due.changes(fiveChanges(0), 0), "01234");
        Due.isText("kinds of changes", Due.changes(fiveChanges(1), 1), "01234");
        Due.isText("nothing in the other draft", Due.changes(fiveChanges(1), 0), "00000");
    }

    /** The draft does nothing with 0, edits 1, moves 2, does both with 3, and removes 4. */
    private static DraftMerge fiveChanges(int draft) {
        DraftMerge x = Due.withBase(10, 20, 30, 40, 50);
        Due.order(x, draft, 3, 2, 0, 1, 4);
        x.remove(draft, 4);
        x.edit(draft, 3, 21);
        x.edit(draft, 0, 41);
        return x;
    }

    private static void changeBounds() {
        drafts("Promise 11", "change", (x, d) -> Due.is("change", x.change(d, 0), d == 0 ? 4 : 0));
        Due.says("Promise 11", "block: the number of a block of the base");
        Due.bounds(Promises1To12::twoAndFour, "change in the draft 0 of the block", Due.INDEX, 0, 2,
                (x, b) -> x.change(0, b));
        Due.bounds(Promises1To12::twoAndFour, "change in the draft 1 of the block", Due.INDEX, 0, 2,
                (x, b) -> x.change(1, b));
        Due.says("Promise 11", "Throws IndexOutOfBoundsException if there is no such draft or block of the base");
        DraftMerge x = twoAndFour();
        Due.is("change(1, 2)", x.change(1, 2), 0);
        Due.refused(x, "change(1, 3), a block of the draft, but not of the base", Due.INDEX, () -> x.change(1, 3));
        Due.refused(x, "change(2, 0)", Due.INDEX, () -> x.change(2, 0));
        x.accept();
        Due.is("change(1, 2) after accept", x.change(1, 2), 0);
        Due.refused(x, "change(1, 3) after accept", Due.INDEX, () -> x.change(1, 3));
        DraftMerge empty = new DraftMerge();
        Due.refused(empty, "change(0, 0) of an empty base", Due.INDEX, () -> empty.change(0, 0));
        DraftMerge full = Due.withBase(0, 1, 2, 3, 4, 5, 6, 7, 8, 9);
        Due.is("change(0, 9)", full.change(0, 9), 0);
        Due.refused(full, "change(0, 10)", Due.INDEX, () -> full.change(0, 10));
    }

    private static void moves() {
        drafts("Promise 12", "moves", (x, d) -> Due.is("moves", x.moves(d), 0));
        Due.says("Promise 12", "Returns the number of blocks of the base that a draft moves.");
        Due.is("moves of nothing", new DraftMerge().moves(0), 0);
        Due.is("moves(0) of two", fiveChanges(0).moves(0), 2);
        Due.is("moves(1) of none", fiveChanges(0).moves(1), 0);
        DraftMerge x = three();
        Due.order(x, 1, 2, 1, 0);
        x.insert(1, 0, 50);
        Due.is("moves(1), the new block not among them", x.moves(1), 2);
        x.remove(1, 1);
        Due.is("moves(1), the removed block not among them", x.moves(1), 1);
        Due.says("Promise 12", "Returns the number of blocks.");
        DraftMerge full = Due.withBase(0, 1, 2, 3, 4, 5, 6, 7, 8, 9);
        Due.is("moves(0), the least", full.moves(0), 0);
        Due.order(full, 0, 9, 8, 7, 6, 5, 4, 3, 2, 1, 0);
        Due.is("moves(0), the most", full.moves(0), 9);
        Due.says("Promise 12", NO_DRAFT);
        Due.bounds(DraftMerge::new, "moves", Due.INDEX, 0, 1, (y, d) -> Due.is("moves of nothing", y.moves(d), 0));
    }
}
