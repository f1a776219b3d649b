/** The sentences of "Terms": blocks, drafts, and what a draft does with a block of the base. */
final class Terms {
    private Terms() {
    }

    static void check() {
        numbersAreIntegers();
        contentFrom0To99();
        baseOfAtMost10();
        twoDrafts();
        draftsBeginAsTheBase();
        draftsCanBeChanged();
        draftOfAtMost15();
        leastNumberThatNoBlockHad();
        atMost30Numbers();
        positionCountsBlocksBefore();
        changedDraft();
        removes();
        edits();
        keptIsLongest();
        keptIsLeast();
        movesWhatIsNotKept();
    }

    private static void numbersAreIntegers() {
        Due.says("Terms", "All numbers are integers, except for similarity().");
        DraftMerge x = Due.withBase(10, 20, 30);
        x.edit(1, 0, 11);
        Due.isDouble("similarity(0)", x.similarity(0), 2.0 / 3.0);
        Due.isDouble("similarity(1)", x.similarity(1), 1.0);
    }

    private static void contentFrom0To99() {
        Due.says("Terms", "A block has a number and a content from 0 to 99.");
        Due.bounds(() -> Due.withBase(5), "addBase", Due.ARGUMENT, 0, 99, (x, c) -> {
            x.addBase(c);
            Due.isText("draft 1", Due.blocks(x, 1), "0:5 1:" + c);
        });
        Due.bounds(() -> Due.withBase(5), "edit", Due.ARGUMENT, 0, 99, (x, c) -> {
            x.edit(0, 0, c);
            Due.isText("draft 0", Due.blocks(x, 0), "0:" + c);
        });
        Due.bounds(() -> Due.withBase(5), "insert", Due.ARGUMENT, 0, 99, (x, c) -> {
            x.insert(1, 0, c);
            Due.isText("draft 1", Due.blocks(x, 1), "1:" + c + " 0:5");
        });
    }

    private static void baseOfAtMost10() {
        Due.says("Terms", "The base consists of at most 10 blocks, which have the numbers 0, 1, 2 and so on in this order; "
                + "at first it is empty.");
        DraftMerge x = new DraftMerge();
        Due.is("baseSize at first", x.baseSize(), 0);
        for (int number = 0; number < 10; number++) {
            Due.is("addBase", x.addBase(50), number);
            Due.is("baseSize", x.baseSize(), number + 1);
        }
        Due.refused(x, "addBase to 10 blocks", Due.STATE, () -> x.addBase(50));
        Due.is("baseSize", x.baseSize(), 10);
        x.insert(0, 0, 1);
        Due.refused(x, "accept of 11 blocks", Due.STATE, x::accept);
        x.remove(1, 9);
        Due.is("accept of 10 blocks", x.accept(), 10);
        Due.is("baseSize", x.baseSize(), 10);
    }

    private static void twoDrafts() {
        Due.says("Terms", "There are two drafts, numbered 0 and 1.");
        DraftMerge x = Due.withBase(10, 20);
        x.remove(0, 0);
        Due.is("size(0)", x.size(0), 1);
        Due.is("size(1)", x.size(1), 2);
        Due.bounds(() -> Due.withBase(10, 20), "size", Due.INDEX, 0, 1, DraftMerge::size);
        Due.bounds(() -> Due.withBase(10, 20), "edit", Due.INDEX, 0, 1, (y, d) -> y.edit(d, 0, 1));
    }

    private static void draftsBeginAsTheBase() {
        Due.says("Terms", "At first, and when the base becomes a new one, both drafts contain the blocks of the base in "
                + "the same order and with the same contents.");
        DraftMerge x = new DraftMerge();
        Due.is("size(0) at first", x.size(0), 0);
        Due.is("size(1) at first", x.size(1), 0);
        Due.order(order3(x), 0, 2, 0, 1);
        x.edit(1, 0, 11);
        x.remove(1, 1);
        x.insert(1, 2, 40);
        Due.isText("draft 0 before accept", Due.blocks(x, 0), "2:30 0:10 1:20");
        Due.isText("draft 1 before accept", Due.blocks(x, 1), "0:11 2:30 3:40");
        x.accept();
        Due.is("baseSize", x.baseSize(), 3);
        Due.isText("draft 0 after accept", Due.blocks(x, 0), "0:30 1:40 2:11");
        Due.isText("draft 1 after accept", Due.blocks(x, 1), "0:30 1:40 2:11");
        Due.isText("changes after accept", Due.changes(x, 0) + Due.changes(x, 1), "000000");
        DraftMerge y = Due.withBase(10);
        y.remove(0, 0);
        y.accept();
        Due.is("baseSize when nothing is left", y.baseSize(), 0);
        Due.is("size(1) when nothing is left", y.size(1), 0);
    }

    private static DraftMerge order3(DraftMerge x) {
        x.addBase(10);
        x.addBase(20);
        x.addBase(30);
        return x;
    }

    private static void draftsCanBeChanged() {
        Due.says("Terms", "In a draft, blocks can be edited (the content changes), moved, removed, and new blocks can be "
                + "inserted.");
        for (int draft = 0; draft < 2; draft++) {
            DraftMerge x = order3(new DraftMerge());
            x.edit(draft, 1, 21);
            Due.isText("edited", Due.blocks(x, draft), "0:10 1:21 2:30");
            x.move(draft, 2, 0);
            Due.isText("moved", Due.blocks(x, draft), "2:30 0:10 1:21");
            x.remove(draft, 1);
            Due.isText("removed", Due.blocks(x, draft), "2:30 1:21");
            x.insert(draft, 2, 40);
            Due.isText("inserted", Due.blocks(x, draft), "2:30 1:21 3:40");
            Due.isText("the other draft", Due.blocks(x, 1 - draft), "0:10 1:20 2:30");
            Due.is("baseSize", x.baseSize(), 3);
        }
    }

    private static void draftOfAtMost15() {
        Due.says("Terms", "A draft contains at most 15 blocks.");
        for (int draft = 0; draft < 2; draft++) {
            int d = draft;
            DraftMerge x = Due.withBase(0, 1, 2, 3, 4, 5, 6, 7, 8, 9);
            for (int size = 10; size < 15; size++) {
                Due.is("insert into " + size + " blocks", x.insert(d, size, 50), size);
            }
            Due.is("size", x.size(d), 15);
            Due.refused(x, "insert into 15 blocks", Due.STATE, () -> x.insert(d, 0, 50));
            Due.is("the other draft takes one", x.insert(1 - d, 0, 50), 15);
            x.remove(d, 14);
            Due.is("insert into 14 blocks", x.insert(d, 0, 50), 16);
            Due.refused(x, "insert into 15 blocks", Due.STATE, () -> x.insert(d, 15, 50));
            Due.is("size", x.size(d), 15);
        }
    }

    private static void leastNumberThatNoBlockHad() {
        Due.says("Terms", "A new block gets the least number that no block had before since the base became a new one (the "
                + "numbers of the base, and of all blocks that were inserted in either draft, also those that are "
                + "removed).");
        DraftMerge x = Due.withBase(10, 20);
        Due.is("insert after a base of 2", x.insert(0, 0, 1), 2);
        Due.is("insert in the other draft", x.insert(1, 0, 1), 3);
        x.remove(1, 0);
        Due.is("insert after a remove of a new block", x.insert(1, 0, 1), 4);
        Due.write(x, "0r1;1r1");
        x.run();
        Due.is("insert after a block of the base is removed in both", x.insert(0, 0, 1), 5);
        Due.isText("merged", Due.merged(x), "4:1 5:1 2:1 1:20");
        x.accept();
        Due.is("insert after accept", x.insert(1, 0, 1), 4);
        Due.is("insert into an empty object", new DraftMerge().insert(1, 0, 1), 0);
    }

    private static void atMost30Numbers() {
        Due.says("Terms", "There are at most 30 numbers.");
        DraftMerge x = new DraftMerge();
        for (int number = 0; number < 30; number++) {
            Due.is("insert of the number " + number, x.insert(number % 2, 0, 1), number);
            x.remove(number % 2, 0);
        }
        Due.refused(x, "insert of a 31st number", Due.STATE, () -> x.insert(0, 0, 1));
        Due.refused(x, "insert of a 31st number", Due.STATE, () -> x.insert(1, 0, 1));
        x.undo();
        x.undo();
        Due.is("insert of the 30th after undo", x.insert(0, 0, 1), 29);
        x.remove(0, 0);
        x.accept();
        Due.is("insert when the base is a new one", x.insert(0, 0, 1), 0);
        DraftMerge y = Due.withBase(0, 1, 2, 3, 4, 5, 6, 7, 8, 9);
        for (int number = 10; number < 30; number++) {
            y.remove(1, 0);
            Due.is("insert of the number " + number, y.insert(1, 9, 1), number);
        }
        Due.refused(y, "insert of a 31st number, the base's among them", Due.STATE, () -> y.insert(0, 0, 1));
    }

    private static void positionCountsBlocksBefore() {
        Due.says("Terms", "The position of a block in a draft is the number of blocks before it.");
        DraftMerge x = Due.withBase(10, 20, 30);
        for (int before = 0; before < 3; before++) {
            Due.is("block with " + before + " before it", x.block(0, before), before);
        }
        x.insert(0, 0, 40);
        Due.is("the first block", x.block(0, 0), 3);
        Due.is("the last block", x.block(0, 3), 2);
        Due.refused(x, "block(0, 4)", Due.INDEX, () -> x.block(0, 4));
        Due.refused(x, "block(0, -1)", Due.INDEX, () -> x.block(0, -1));
    }

    private static void changedDraft() {
        Due.says("Terms", "A draft is changed if its blocks, their order or their contents are not those of the base.");
        for (int draft = 0; draft < 2; draft++) {
            int d = draft;
            DraftMerge x = Due.withBase(10, 20);
            x.edit(d, 1, 21);
            Due.refused(x, "addBase with another content", Due.STATE, () -> x.addBase(30));
            x.edit(d, 1, 20);
            Due.is("addBase with the content of the base again", x.addBase(30), 2);
            x.move(d, 1, 2);
            Due.refused(x, "addBase with another order", Due.STATE, () -> x.addBase(40));
            x.move(d, 2, 1);
            Due.is("addBase with the order of the base again", x.addBase(40), 3);
            x.remove(d, 3);
            Due.refused(x, "addBase with a block less", Due.STATE, () -> x.addBase(50));
            x.undo();
            Due.is("addBase with the blocks of the base again", x.addBase(50), 4);
        }
        DraftMerge alike = Due.withBase(10, 10);
        alike.move(1, 0, 1);
        Due.refused(alike, "addBase with another order of the same contents", Due.STATE, () -> alike.addBase(10));
    }

    private static void removes() {
        Due.says("Terms", "The draft removes it, if it does not contain it.");
        for (int draft = 0; draft < 2; draft++) {
            DraftMerge x = Due.withBase(10, 20, 30);
            Due.isText("it contains all", Due.changes(x, draft), "000");
            x.remove(draft, 2);
            Due.isText("it does not contain the last one", Due.changes(x, draft), "004");
            Due.isText("the other draft does", Due.changes(x, 1 - draft), "000");
            x.move(draft, 1, 0);
            x.edit(draft, 0, 21);
            Due.isText("moved and edited", Due.changes(x, draft), "034");
            x.remove(draft, 0);
            Due.isText("moved, edited and removed", Due.changes(x, draft), "044");
            x.remove(draft, 0);
            Due.isText("it contains nothing", Due.changes(x, draft), "444");
        }
    }

    private static void edits() {
        Due.says("Terms", "The draft edits it, if it contains it with another content than the base.");
        for (int draft = 0; draft < 2; draft++) {
            DraftMerge x = Due.withBase(10, 20);
            x.edit(draft, 1, 19);
            Due.isText("one less", Due.changes(x, draft), "01");
            x.edit(draft, 1, 21);
            Due.isText("one more", Due.changes(x, draft), "01");
            x.edit(draft, 1, 20);
            Due.isText("the content of the base", Due.changes(x, draft), "00");
            x.edit(draft, 1, 10);
            Due.isText("the content of another block", Due.changes(x, draft), "01");
            Due.isText("the other draft", Due.changes(x, 1 - draft), "00");
        }
    }

    private static void order(String call, String want, int... numbers) {
        for (int draft = 0; draft < 2; draft++) {
            DraftMerge x = new DraftMerge();
            for (int number = 0; number < numbers.length; number++) {
                x.addBase(10);
            }
            Due.order(x, draft, numbers);
            Due.isText(call + ", draft " + draft, Due.changes(x, draft), want);
        }
    }

    private static void keptIsLongest() {
        Due.says("Terms", "The kept sequence of a draft is a longest sequence of blocks of the base, in the order in which "
                + "they are in the draft, whose numbers ascend.");
        order("of nothing", "");
        order("of one", "0", 0);
        order("all ascend", "0000000000", 0, 1, 2, 3, 4, 5, 6, 7, 8, 9);
        order("none ascend", "0222222222", 9, 8, 7, 6, 5, 4, 3, 2, 1, 0);
        order("9 comes first", "0000000002", 9, 0, 1, 2, 3, 4, 5, 6, 7, 8);
        order("0 comes last: the longer one, not the lesser one", "2000000000", 1, 2, 3, 4, 5, 6, 7, 8, 9, 0);
        order("5 to 9 are longer than 1 to 4", "2222200000", 5, 6, 7, 8, 9, 1, 2, 3, 4, 0);
        order("not the nearest greater one each time", "00200", 0, 1, 3, 4, 2);
        DraftMerge x = Due.withBase(10, 20, 30, 40);
        Due.write(x, "0m3>0;0i1=50;0i2=51;0i3=52;0i4=53");
        x.run();
        Due.isText("draft 0", Due.blocks(x, 0), "3:40 4:50 5:51 6:52 7:53 0:10 1:20 2:30");
        Due.isText("new blocks are not of the base", Due.changes(x, 0), "0002");
        x.remove(0, 5);
        x.remove(0, 5);
        Due.isText("removed blocks are not in the draft: 3 2", Due.changes(x, 0), "4402");
    }

    private static void keptIsLeast() {
        Due.says("Terms", "Among several longest ones it is the one whose first number is least; among several of these "
                + "the one whose second number is least, and so on.");
        order("the first: 0 1, not 2 3", "0022", 2, 3, 0, 1);
        order("the first: 0 1 2, not 3 4 5", "000222", 3, 4, 5, 0, 1, 2);
        order("the second: 0 1, not 0 2", "002", 0, 2, 1);
        order("the second: 0 1 2, not 0 3 4", "00022", 0, 3, 4, 1, 2);
        order("the third: 0 1 2, not 0 1 3", "0002", 0, 1, 3, 2);
        order("the first and the third: 0 2 4, not 1 3 5", "020202", 1, 0, 3, 2, 5, 4);
        order("the first before the second: 0 2 3, not 1 2 3", "0200", 1, 0, 2, 3);
        for (int swapped = 0; swapped < 9; swapped++) {
            int[] numbers = {0, 1, 2, 3, 4, 5, 6, 7, 8, 9};
            numbers[swapped] = swapped + 1;
            numbers[swapped + 1] = swapped;
            StringBuilder want = new StringBuilder("0000000000");
            want.setCharAt(swapped + 1, '2');
            order("the number " + swapped + " of it decides", want.toString(), numbers);
        }
    }

    private static void movesWhatIsNotKept() {
        Due.says("Terms", "The draft moves a block of the base if it contains it, but not in its kept sequence.");
        DraftMerge x = Due.withBase(10, 20, 30, 40);
        x.move(1, 0, 3);
        Due.isText("0 is contained, not kept", Due.changes(x, 1), "2000");
        Due.is("moves(1)", x.moves(1), 1);
        x.remove(1, 3);
        Due.isText("0 is not contained", Due.changes(x, 1), "4000");
        Due.is("moves(1)", x.moves(1), 0);
        x.undo();
        x.move(1, 3, 0);
        Due.isText("0 is contained and kept", Due.changes(x, 1), "0000");
        x.insert(1, 0, 50);
        Due.is("a new block is not moved", x.moves(1), 0);
        x.move(1, 0, 4);
        Due.is("a new block is not moved", x.moves(1), 0);
    }
}
