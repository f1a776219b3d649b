/** The sentences of "What it is". */
final class WhatItIs {
    private static final String S = "What it is";
    private static final int CALLS = 512;

    private WhatItIs() {
    }

    static void check() {
        eachOfItsParts();
        noneOfItsPartsIsShared();
        callsUpTo512();
        refusedCallsUpTo512();
    }

    private static void whatItIs() {
        Due.says(S, "A three-way merge of a base and two drafts: blocks that are edited, moved, inserted and removed in each "
                + "draft, moves that are found by a longest ascending sequence, a merged text in which a block that is moved "
                + "in one draft and edited in the other is both, conflicts with choices, accepting the merged text as the "
                + "new base, edit commands that are read from texts, and undo.");
    }

    private static void eachOfItsParts() {
        whatItIs();
        for (int mover = 0; mover < 2; mover++) {
            int editor = 1 - mover;
            DraftMerge x = Due.withBase(10, 20, 30, 40);
            Due.write(x, mover + "m3>0;" + editor + "e3=44;" + mover + "i2=50;" + editor + "r1;" + mover + "e1=11;"
                    + editor + "e0=12");
            Due.is("run", x.run(), 6);
            Due.is("moves", x.moves(mover), 1);
            Due.isText("conflicts", Due.conflicts(x), "0/1");
            x.choose(0, editor);
            Due.isText("merged", Due.merged(x), "3:44 0:12 4:50 2:30");
            Due.is("accept", x.accept(), 4);
            Due.isText("the draft that edited", Due.blocks(x, editor), "0:44 1:12 2:50 3:30");
            x.undo();
            Due.isText("the draft that edited, after undo", Due.blocks(x, editor), "0:12 2:30 3:44");
        }
    }

    private static void noneOfItsPartsIsShared() {
        whatItIs();
        DraftMerge x = Due.withBase(10, 20);
        DraftMerge y = Due.withBase(10, 20);
        long before = y.digest();
        Due.write(x, "0m1>0;1e1=21;0e1=11;1e0=12");
        x.run();
        x.choose(0, 1);
        x.prefer(1);
        x.accept();
        Due.write(x, "0r");
        Due.is("digest of the other object", y.digest(), before);
        Due.is("savedStates of the other object", y.savedStates(), 2);
        Due.is("the length of the other buffer", y.clearText(), 0);
        Due.is("prefer of the other object", y.prefer(0), 0);
        Due.is("the length of its own buffer", x.clearText(), 2);
    }

    private interface Numbered {
        void call(int number);
    }

    /** Does the calls from this one to the 511th; the 512th is then the one that is asked. */
    private static void before512(int first, Numbered doCall) {
        for (int number = first; number < CALLS; number++) {
            doCall.call(number);
        }
    }

    private static void calls512() {
        Due.says(S, "An object is used for at most 512 calls after it has been made; what later calls answer is free.");
    }

    private static void callsUpTo512() {
        calls512();
        DraftMerge accepts = new DraftMerge();
        before512(1, number -> accepts.accept());
        Due.is("accepted as the 512th call", accepts.accepted(), 511);
        DraftMerge edits = Due.withBase(0);
        before512(2, number -> edits.edit(1, 0, number % 100));
        Due.is("edit as the 512th call", edits.edit(1, 0, 5), 11);
        DraftMerge undos = Due.withBase(0, 1, 2, 3, 4, 5, 6);
        before512(8, number -> {
            if (number % 2 == 0) {
                undos.prefer(1);
            } else {
                undos.undo();
            }
        });
        Due.is("savedStates as the 512th call", undos.savedStates(), 5);
        DraftMerge inserts = new DraftMerge();
        before512(1, number -> {
            if (number % 3 == 1) {
                inserts.insert(0, 0, number % 100);
            } else if (number % 3 == 2) {
                inserts.remove(0, 0);
            } else {
                inserts.accept();
            }
        });
        Due.is("insert as the 512th call", inserts.insert(1, 0, 7), 1);
    }

    private static void refusedCallsUpTo512() {
        calls512();
        DraftMerge texts = new DraftMerge();
        before512(1, number -> texts.append('1'), Due.STATE, 60);
        Due.is("clearText as the 512th call", texts.clearText(), 60);
        DraftMerge undos = new DraftMerge();
        before512(1, number -> undos.undo(), Due.STATE, 0);
        Due.is("savedStates as the 512th call", undos.savedStates(), 0);
        DraftMerge bases = new DraftMerge();
        before512(1, number -> bases.addBase(number % 100), Due.STATE, 10);
        Due.is("baseSize as the 512th call", bases.baseSize(), 10);
    }

    /** As above, with calls of which only so many, the first ones, are answered. */
    private static void before512(int first, Numbered doCall, Class<? extends RuntimeException> want, int answered) {
        int count = 0;
        for (int number = first; number < CALLS; number++) {
            try {
                doCall.call(number);
                count++;
            } catch (RuntimeException e) {
                Due.isText("the call " + number + " throws", e.getClass().getName(), want.getName());
            }
        }
        Due.is("calls that are answered", count, answered);
    }
}
