/** Promises 1 to 12: a new object, the base and the drafts. */
public final class BaseAndDraftsTest {
    public static void main(String[] args) {
        promise01NewObject();
        promise02AddBase();
        promise02AddBaseRefused();
        promise03Edit();
        promise04Move();
        promise05Insert();
        promise05InsertLimits();
        promise06Remove();
        promise07And08Sizes();
        promise09And10BlockAndContent();
        promise11Change();
        promise11KeptSequence();
        promise12Moves();
        Due.end("BaseAndDraftsTest");
    }

    private static void promise01NewObject() {
        DraftMerge x = new DraftMerge();
        Due.is("NONE", DraftMerge.NONE, -1);
        Due.is("new baseSize", x.baseSize(), 0);
        Due.is("new size(0)", x.size(0), 0);
        Due.is("new size(1)", x.size(1), 0);
        Due.is("new mergedSize", x.mergedSize(), 0);
        Due.is("new conflicts", x.conflicts(), 0);
        Due.is("new open", x.open(), 0);
        Due.is("new accepted", x.accepted(), 0);
        Due.is("new savedStates", x.savedStates(), 0);
        Due.is("new firstError", x.firstError(), 0);
        Due.is("new clearText", x.clearText(), 0);
        Due.is("new prefer(0)", x.prefer(0), 0);
        DraftMerge other = new DraftMerge();
        x.addBase(5);
        Due.is("another object stays empty", other.baseSize(), 0);
    }

    private static void promise02AddBase() {
        DraftMerge x = new DraftMerge();
        Due.is("addBase(0)", x.addBase(0), 0);
        Due.is("addBase(99)", x.addBase(99), 1);
        Due.isText("draft 0", Due.blocks(x, 0), "0:0 1:99");
        Due.isText("draft 1", Due.blocks(x, 1), "0:0 1:99");
        for (int number = 2; number < 10; number++) {
            Due.is("addBase", x.addBase(number), number);
        }
        Due.is("baseSize of a full base", x.baseSize(), 10);
        Due.is("savedStates", x.savedStates(), 6);
        Due.refused(x, "an eleventh addBase", Due.STATE, () -> x.addBase(1));
        Due.refused(x, "an eleventh addBase(100)", Due.ARGUMENT, () -> x.addBase(100));
    }

    private static void promise02AddBaseRefused() {
        DraftMerge x = Due.withBase(10, 20);
        Due.refused(x, "addBase(-1)", Due.ARGUMENT, () -> x.addBase(-1));
        Due.refused(x, "addBase(100)", Due.ARGUMENT, () -> x.addBase(100));
        for (int draft = 0; draft < 2; draft++) {
            x.edit(draft, 0, 11);
            Due.refused(x, "addBase after edit", Due.STATE, () -> x.addBase(1));
            Due.refused(x, "addBase(100) after edit", Due.ARGUMENT, () -> x.addBase(100));
            x.edit(draft, 0, 10);
            x.move(draft, 0, 1);
            Due.refused(x, "addBase after move", Due.STATE, () -> x.addBase(1));
            x.move(draft, 0, 1);
            x.remove(draft, 1);
            Due.refused(x, "addBase after remove", Due.STATE, () -> x.addBase(1));
            x.undo();
        }
        Due.is("addBase when all is as the base again", x.addBase(30), 2);
        x.insert(1, 0, 5);
        x.remove(1, 0);
        Due.refused(x, "addBase after an inserted block is removed", Due.STATE, () -> x.addBase(1));
        x.undo();
        x.undo();
        Due.is("addBase after the insert is undone", x.addBase(40), 3);
        x.insert(0, 4, 50);
        x.accept();
        Due.is("addBase after accept", x.addBase(60), 5);
        Due.isText("draft 1", Due.blocks(x, 1), "0:10 1:20 2:30 3:40 4:50 5:60");
    }

    private static void promise03Edit() {
        DraftMerge x = Due.withBase(10, 20);
        Due.is("edit(0, 1, 99)", x.edit(0, 1, 99), 20);
        Due.is("edit(0, 1, 0)", x.edit(0, 1, 0), 99);
        Due.isText("draft 0", Due.blocks(x, 0), "0:10 1:0");
        Due.isText("draft 1", Due.blocks(x, 1), "0:10 1:20");
        x.insert(1, 0, 7);
        Due.is("edit of a new block", x.edit(1, 0, 8), 7);
        Due.isText("draft 1", Due.blocks(x, 1), "2:8 0:10 1:20");
        int saved = x.savedStates();
        Due.is("edit to the same", x.edit(1, 0, 8), 8);
        Due.is("it saves a state too", x.savedStates(), saved + 1 > 6 ? 6 : saved + 1);
        Due.refused(x, "edit(-1, 0, 0)", Due.INDEX, () -> x.edit(-1, 0, 0));
        Due.refused(x, "edit(2, 0, 0)", Due.INDEX, () -> x.edit(2, 0, 0));
        Due.refused(x, "edit(0, -1, 0)", Due.INDEX, () -> x.edit(0, -1, 0));
        Due.refused(x, "edit(0, 2, 100)", Due.INDEX, () -> x.edit(0, 2, 100));
        Due.refused(x, "edit(0, 0, 100)", Due.ARGUMENT, () -> x.edit(0, 0, 100));
        Due.refused(x, "edit(0, 0, -1)", Due.ARGUMENT, () -> x.edit(0, 0, -1));
        Due.refused(x, "edit(max, max, max)", Due.INDEX,
                () -> x.edit(Integer.MAX_VALUE, Integer.MAX_VALUE, Integer.MAX_VALUE));
    }

    private static void promise04Move() {
        DraftMerge x = Due.withBase(10, 20, 30, 40);
        Due.is("move(0, 3, 0)", x.move(0, 3, 0), 3);
        Due.isText("draft 0", Due.blocks(x, 0), "3:40 0:10 1:20 2:30");
        Due.is("move(0, 0, 2)", x.move(0, 0, 2), 3);
        Due.isText("draft 0", Due.blocks(x, 0), "0:10 1:20 3:40 2:30");
        Due.is("move(0, 1, 1)", x.move(0, 1, 1), 1);
        Due.isText("draft 0", Due.blocks(x, 0), "0:10 1:20 3:40 2:30");
        Due.is("savedStates", x.savedStates(), 6);
        Due.isText("draft 1", Due.blocks(x, 1), "0:10 1:20 2:30 3:40");
        Due.refused(x, "move(2, 0, 0)", Due.INDEX, () -> x.move(2, 0, 0));
        Due.refused(x, "move(-1, 0, 0)", Due.INDEX, () -> x.move(-1, 0, 0));
        Due.refused(x, "move(0, 4, 0)", Due.INDEX, () -> x.move(0, 4, 0));
        Due.refused(x, "move(0, 0, 4)", Due.INDEX, () -> x.move(0, 0, 4));
        Due.refused(x, "move(0, -1, 0)", Due.INDEX, () -> x.move(0, -1, 0));
        Due.refused(x, "move(0, 0, -1)", Due.INDEX, () -> x.move(0, 0, -1));
    }

    private static void promise05Insert() {
        DraftMerge x = Due.withBase(10, 20);
        Due.is("insert(0, 1, 50)", x.insert(0, 1, 50), 2);
        Due.is("insert(1, 0, 60)", x.insert(1, 0, 60), 3);
        x.remove(1, 0);
        Due.is("insert(0, 3, 70)", x.insert(0, 3, 70), 4);
        Due.isText("draft 0", Due.blocks(x, 0), "0:10 2:50 1:20 4:70");
        Due.isText("draft 1", Due.blocks(x, 1), "0:10 1:20");
        x.undo();
        Due.is("the number of an undone insert comes again", x.insert(1, 2, 80), 4);
        Due.refused(x, "insert(2, 0, 0)", Due.INDEX, () -> x.insert(2, 0, 0));
        Due.refused(x, "insert(0, -1, 0)", Due.INDEX, () -> x.insert(0, -1, 0));
        Due.refused(x, "insert(0, 4, 100)", Due.INDEX, () -> x.insert(0, 4, 100));
        Due.refused(x, "insert(0, 0, 100)", Due.ARGUMENT, () -> x.insert(0, 0, 100));
        Due.refused(x, "insert(0, 0, -1)", Due.ARGUMENT, () -> x.insert(0, 0, -1));
        x.accept();
        Due.is("numbers begin anew after accept", x.insert(0, 0, 1), 4);
    }

    private static void promise05InsertLimits() {
        DraftMerge x = new DraftMerge();
        for (int number = 0; number < 15; number++) {
            Due.is("insert", x.insert(0, number, number), number);
        }
        Due.refused(x, "insert into a full draft", Due.STATE, () -> x.insert(0, 15, 0));
        Due.refused(x, "insert(0, 16, 0) into a full draft", Due.INDEX, () -> x.insert(0, 16, 0));
        Due.refused(x, "insert(0, 15, 100) into a full draft", Due.ARGUMENT, () -> x.insert(0, 15, 100));
        for (int number = 15; number < 30; number++) {
            Due.is("insert", x.insert(1, 0, number), number);
        }
        x.remove(1, 0);
        Due.refused(x, "insert of a 31st number", Due.STATE, () -> x.insert(1, 0, 0));
        Due.refused(x, "insert(1, 15, 0) of a 31st number", Due.INDEX, () -> x.insert(1, 15, 0));
        Due.is("mergedSize", x.mergedSize(), 29);
    }

    private static void promise06Remove() {
        DraftMerge x = Due.withBase(10, 20, 30);
        Due.is("remove(0, 1)", x.remove(0, 1), 1);
        Due.isText("draft 0", Due.blocks(x, 0), "0:10 2:30");
        Due.isText("draft 1", Due.blocks(x, 1), "0:10 1:20 2:30");
        Due.is("remove(0, 1)", x.remove(0, 1), 2);
        Due.is("remove(0, 0)", x.remove(0, 0), 0);
        Due.is("savedStates", x.savedStates(), 6);
        Due.refused(x, "remove(0, 0)", Due.INDEX, () -> x.remove(0, 0));
        Due.refused(x, "remove(1, 3)", Due.INDEX, () -> x.remove(1, 3));
        Due.refused(x, "remove(1, -1)", Due.INDEX, () -> x.remove(1, -1));
        Due.refused(x, "remove(2, 0)", Due.INDEX, () -> x.remove(2, 0));
        Due.refused(x, "remove(-1, 0)", Due.INDEX, () -> x.remove(-1, 0));
    }

    private static void promise07And08Sizes() {
        DraftMerge x = Due.withBase(1, 2, 3);
        x.remove(0, 0);
        x.insert(1, 0, 9);
        Due.is("baseSize", x.baseSize(), 3);
        Due.is("size(0)", x.size(0), 2);
        Due.is("size(1)", x.size(1), 4);
        Due.refused(x, "size(-1)", Due.INDEX, () -> x.size(-1));
        Due.refused(x, "size(2)", Due.INDEX, () -> x.size(2));
    }

    private static void promise09And10BlockAndContent() {
        DraftMerge x = Due.withBase(11, 22, 33);
        x.move(0, 0, 2);
        x.edit(0, 2, 44);
        Due.is("block(0, 2)", x.block(0, 2), 0);
        Due.is("content(0, 2)", x.content(0, 2), 44);
        Due.is("block(1, 2)", x.block(1, 2), 2);
        Due.is("content(1, 2)", x.content(1, 2), 33);
        int[][] wrong = {{-1, 0}, {2, 0}, {0, -1}, {0, 3}, {1, 3}, {Integer.MIN_VALUE, Integer.MAX_VALUE}};
        for (int[] w : wrong) {
            Due.refused(x, "block(" + w[0] + ", " + w[1] + ")", Due.INDEX, () -> x.block(w[0], w[1]));
            Due.refused(x, "content(" + w[0] + ", " + w[1] + ")", Due.INDEX, () -> x.content(w[0], w[1]));
        }
    }

    private static void promise11Change() {
        DraftMerge x = Due.withBase(10, 20, 30, 40);
        x.edit(0, 0, 11);
        x.remove(0, 1);
        x.move(0, 2, 0);
        x.edit(0, 0, 41);
        x.insert(0, 0, 5);
        Due.isText("changes of draft 0", Due.changes(x, 0), "1403");
        Due.isText("changes of draft 1", Due.changes(x, 1), "0000");
        x.edit(0, 1, 40);
        Due.isText("changes of draft 0", Due.changes(x, 0), "1402");
        int[][] wrong = {{-1, 0}, {2, 0}, {0, -1}, {0, 4}, {1, 4}};
        for (int[] w : wrong) {
            Due.refused(x, "change(" + w[0] + ", " + w[1] + ")", Due.INDEX, () -> x.change(w[0], w[1]));
        }
    }

    private static void promise11KeptSequence() {
        DraftMerge x = Due.withBase(0, 1, 2, 3, 4, 5);
        Due.order(x, 0, 1, 0, 3, 2, 5, 4);
        Due.isText("least numbers are kept", Due.changes(x, 0), "020202");
        Due.order(x, 0, 3, 4, 5, 0, 1, 2);
        Due.isText("the least first number is kept", Due.changes(x, 0), "000222");
        Due.order(x, 0, 2, 3, 4, 5, 0, 1);
        Due.isText("the longest is kept", Due.changes(x, 0), "220000");
        Due.order(x, 0, 0, 3, 1, 4, 2, 5);
        Due.isText("the second number decides", Due.changes(x, 0), "000220");
        Due.order(x, 0, 5, 4, 3, 2, 1, 0);
        Due.isText("one is kept", Due.changes(x, 0), "022222");
        Due.order(x, 0, 4, 0, 5, 2, 1, 3);
        Due.isText("0 1 3 is kept, not 0 2 3", Due.changes(x, 0), "002022");
        Due.order(x, 1, 0, 1, 2, 3, 5, 4);
        x.insert(1, 5, 50);
        Due.isText("new blocks do not count", Due.changes(x, 1), "000002");
    }

    private static void promise12Moves() {
        DraftMerge x = Due.withBase(0, 1, 2, 3);
        Due.is("moves(0)", x.moves(0), 0);
        Due.order(x, 0, 3, 2, 1, 0);
        Due.is("moves(0)", x.moves(0), 3);
        Due.is("moves(1)", x.moves(1), 0);
        x.remove(0, 3);
        x.insert(0, 0, 5);
        Due.is("moves(0) of 3 2 1", x.moves(0), 2);
        x.edit(0, 1, 9);
        Due.is("moves(0) with an edit", x.moves(0), 2);
        Due.refused(x, "moves(-1)", Due.INDEX, () -> x.moves(-1));
        Due.refused(x, "moves(2)", Due.INDEX, () -> x.moves(2));
    }
}
