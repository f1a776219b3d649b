/** The sentences of the promises 25 to 28: the buffer and its command text. */
final class Promises25To28 {
    /** 60 characters that are no complete text, and 60 that are one of 15 commands. */
    private static final String SIXTY = "0r1;0r1;0r1;0r1;0r1;0r1;0r1;0r1;0r1;0r1;0r1;0r1;0r1;0r1;0r1;";
    private static final String SIXTY_COMPLETE = "0r14;0r0;0r0;0r0;0r0;0r0;0r0;0r0;0r0;0r0;0r0;0r0;0r0;0r0;0r0";

    private Promises25To28() {
    }

    static void check() {
        append();
        appendBounds();
        appendToFull();
        clearText();
        firstError();
        firstErrorAtTheEnds();
        run();
        runStops();
        runUndoable();
        runCounts();
        runRefused();
    }

    private static DraftMerge three() {
        return Due.withBase(10, 20, 30);
    }

    private static DraftMerge with(DraftMerge x, String text) {
        Due.write(x, text);
        return x;
    }

    private static void append() {
        Due.says("Promise 25", "Appends a character to the buffer.");
        DraftMerge x = three();
        x.append('0');
        x.append('r');
        x.append('2');
        Due.is("firstError", x.firstError(), 3);
        Due.is("run", x.run(), 1);
        Due.isText("the draft 0", Due.blocks(x, 0), "0:10 1:20");
        Due.says("Promise 25", "Returns the new length of the buffer.");
        for (int length = 1; length <= 60; length++) {
            Due.is("append", x.append(33 + length), length);
        }
        x.clearText();
        Due.is("append after clearText", x.append('1'), 1);
        Due.is("append", x.append('r'), 2);
        Due.is("append", x.append('0'), 3);
        x.run();
        Due.is("append after run", x.append('1'), 1);
        Due.is("savedStates: append saves nothing", x.savedStates(), 5);
    }

    private static void appendBounds() {
        Due.says("Promise 25", "code: a character code, 33 to 126");
        Due.bounds(() -> with(three(), "0r"), "append of the code", Due.ARGUMENT, 33, 126,
                (x, c) -> Due.is("append", x.append(c), 3));
        Due.says("Promise 25", "Throws IllegalArgumentException if code is out of range");
        Due.bounds(DraftMerge::new, "append of the code", Due.ARGUMENT, 33, 126,
                (x, c) -> Due.is("append", x.append(c), 1));
        DraftMerge x = three();
        for (int code : new int[] {0, 32, 127, 128, 255, 256 + '0', 65536 + '0', -33, -126}) {
            Due.refused(x, "append(" + code + ")", Due.ARGUMENT, () -> x.append(code));
        }
        Due.is("the length", x.clearText(), 0);
    }

    private static void appendToFull() {
        Due.says("Promise 25", "Throws IllegalStateException if the buffer contains 60 characters");
        DraftMerge x = new DraftMerge();
        for (int length = 1; length <= 59; length++) {
            x.append('0');
        }
        Due.is("append to 59 characters", x.append('0'), 60);
        Due.refused(x, "append to 60 characters", Due.STATE, () -> x.append('0'));
        Due.refused(x, "append of another one to 60 characters", Due.STATE, () -> x.append(126));
        Due.is("clearText", x.clearText(), 60);
        Due.is("append when the buffer is empty again", x.append('0'), 1);
        DraftMerge y = with(three(), SIXTY_COMPLETE);
        Due.refused(y, "append to 60 characters", Due.STATE, () -> y.append(';'));
        y.run();
        Due.is("append after run", y.append('0'), 1);
    }

    private static void clearText() {
        Due.says("Promise 26", "Empties the buffer.");
        DraftMerge x = with(three(), "0r1x");
        x.clearText();
        Due.is("firstError of the empty buffer", x.firstError(), 0);
        Due.refused(x, "run of the empty buffer", Due.ARGUMENT, x::run);
        Due.is("run of a new text", with(x, "0r0").run(), 1);
        Due.says("Promise 26", "Returns the length that it had.");
        Due.is("clearText of nothing", new DraftMerge().clearText(), 0);
        Due.is("clearText of one character", with(new DraftMerge(), "x").clearText(), 1);
        DraftMerge y = with(new DraftMerge(), SIXTY);
        Due.is("clearText of 60 characters", y.clearText(), 60);
        Due.is("clearText once more", y.clearText(), 0);
        Due.is("savedStates: clearText saves nothing", y.savedStates(), 0);
    }

    private static void firstError() {
        Due.says("Promise 27", "Finds the first error of the buffer.");
        Due.is("firstError of two errors", with(new DraftMerge(), "0x;2").firstError(), 1);
        Due.is("firstError of one", with(new DraftMerge(), "0r1;1i0=5;0m15>1z").firstError(), 16);
        DraftMerge x = with(new DraftMerge(), "0r1;1e16=5");
        Due.is("firstError", x.firstError(), 7);
        Due.is("firstError once more", x.firstError(), 7);
        Due.is("append after it", x.append(';'), 11);
        Due.is("savedStates: firstError saves nothing", x.savedStates(), 0);
    }

    private static void firstErrorAtTheEnds() {
        Due.says("Promise 27", "Returns the index of the first character that is an error; the length of the buffer if there "
                + "is none (also if the buffer is not a complete command text).");
        Due.is("the first character", with(new DraftMerge(), "r").firstError(), 0);
        Due.is("the last character", with(new DraftMerge(), "0r1x").firstError(), 3);
        Due.is("none in nothing", new DraftMerge().firstError(), 0);
        for (String text : new String[] {"0r1", "0e1=2", "1m0>15", "0i15=99;1r0"}) {
            Due.is("none in the complete " + text, with(new DraftMerge(), text).firstError(), text.length());
        }
        for (String text : new String[] {"0", "1e", "1e1", "1e1=", "0m5", "0m5>", "1i3=", "0r", "0r1;", "0r1;1"}) {
            Due.is("none in the incomplete " + text, with(new DraftMerge(), text).firstError(), text.length());
        }
        Due.is("none in 60 characters", with(new DraftMerge(), SIXTY).firstError(), 60);
        Due.is("none in 60 characters", with(new DraftMerge(), SIXTY_COMPLETE).firstError(), 60);
        Due.is("the 60th character", with(new DraftMerge(), SIXTY.substring(0, 59) + "x").firstError(), 59);
    }

    private static void run() {
        Due.says("Promise 28", "Executes the commands in the buffer, one after the other, up to the first one whose method "
                + "would throw an exception, and empties the buffer.");
        DraftMerge x = with(three(), "0m0>2;0e0=21;0r1;1i0=40;1e0=41");
        x.run();
        Due.isText("the draft 0", Due.blocks(x, 0), "1:21 0:10");
        Due.isText("the draft 1", Due.blocks(x, 1), "3:41 0:10 1:20 2:30");
        Due.is("the length of the buffer", x.clearText(), 0);
        with(x, "0e9=1").run();
        Due.is("the length of the buffer when no command is executed", x.clearText(), 0);
        with(x, "0e0=1;0e9=1;0e1=2").run();
        Due.isText("only what is before the first one that throws", Due.blocks(x, 0), "1:1 0:10");
        Due.is("the length of the buffer", x.clearText(), 0);
    }

    private static void runStops() {
        Due.says("Promise 28", "Executes the commands in the buffer, one after the other, up to the first one whose method "
                + "would throw an exception, and empties the buffer.");
        Due.is("edit beside the draft", with(three(), "0e2=5;0e3=5;0e0=5").run(), 1);
        Due.is("move from beside the draft", with(three(), "1m2>2;1m3>2;0e0=5").run(), 1);
        Due.is("move to beside the draft", with(three(), "1m2>0;1m2>3;0e0=5").run(), 1);
        Due.is("insert beside the draft", with(three(), "0i3=5;0i5=5;0e0=5").run(), 1);
        Due.is("remove beside the draft", with(three(), "1r2;1r2;0e0=5").run(), 1);
        Due.is("remove from an empty draft", with(three(), "0r0;0r0;0r0;0r0;1r0").run(), 3);
        DraftMerge full = new DraftMerge();
        for (int number = 0; number < 14; number++) {
            full.insert(1, 0, 5);
        }
        Due.is("insert into 14 and into 15 blocks", with(full, "1i14=6;1i0=7;1r0").run(), 1);
        Due.is("insert when there is room again", with(full, "1r0;1i14=8;1i15=9").run(), 2);
        for (int number = 16; number < 29; number++) {
            full.insert(0, 0, 5);
        }
        Due.is("the 30th and the 31st number", with(full, "0i0=1;0i0=1;0r0").run(), 1);
    }

    private static void runUndoable() {
        Due.says("Promise 28", "Undoable, as one call, also if no command is executed.");
        Due.undone(Promises25To28::three, "run of three", x -> with(x, "0r0;1m2>0;1i0=5").run());
        Due.undone(Promises25To28::three, "run of no command", x -> with(x, "0r3").run());
        Due.undone(DraftMerge::new, "run of 15", x -> with(x, "0i0=5;1i0=6;0i0=7;1i0=8;0r0;0r0;1r0;1r0;1r0").run());
        DraftMerge x = with(three(), "0i0=5;0i0=6;0r0;0r0;1r0;1r0;1r0");
        x.run();
        Due.is("savedStates after run of seven", x.savedStates(), 4);
        x.undo();
        Due.isText("the draft 1 after undo", Due.blocks(x, 1), "0:10 1:20 2:30");
        Due.is("the next number after undo", x.insert(0, 0, 5), 3);
        Due.is("the length of the buffer after undo", x.clearText(), 0);
        DraftMerge y = with(three(), "0r0;");
        Due.refused(y, "run", Due.ARGUMENT, y::run);
        Due.is("savedStates after a refused run", y.savedStates(), 3);
    }

    private static void runCounts() {
        Due.says("Promise 28", "Returns the number of commands that are executed.");
        Due.is("run of one of one", with(three(), "0r0").run(), 1);
        Due.is("run of none of one", with(three(), "0r3").run(), 0);
        Due.is("run of none of two", with(three(), "0r3;0r0").run(), 0);
        Due.is("run of one of two", with(three(), "0r0;0r3").run(), 1);
        Due.is("run of two of two", with(three(), "0r0;0r0").run(), 2);
        Due.is("run of a move to where it is", with(three(), "0m1>1").run(), 1);
        DraftMerge x = new DraftMerge();
        for (int number = 0; number < 15; number++) {
            x.insert(0, 0, 5);
        }
        Due.is("run of 15 of 15", with(x, SIXTY_COMPLETE).run(), 15);
        Due.is("run of none of 15", with(x, SIXTY_COMPLETE).run(), 0);
    }

    private static void runRefused() {
        Due.says("Promise 28", "Throws IllegalArgumentException if the buffer is not a complete command text (the buffer "
                + "stays)");
        String[][] texts = {{"", "0r0"}, {"0", "r0"}, {"0r", "0"}, {"0r0;", "1r0"}, {"0e0", "=5"}, {"0e0=", "5"},
            {"0m0", ">1"}, {"0m0>", "1"}, {"1i0", "=5"}, {"1i0=", "5"}, {"0r0;1", "r0"}};
        for (String[] text : texts) {
            DraftMerge x = with(three(), text[0]);
            Due.refused(x, "run of " + text[0], Due.ARGUMENT, x::run);
            Due.is("savedStates", x.savedStates(), 3);
            DraftMerge y = with(three(), text[0] + text[1]);
            Due.is("run of " + text[0] + text[1], with(x, text[1]).run(), y.run());
            Due.is("digest of " + text[0] + text[1], x.digest(), y.digest());
            Due.is("the length of the buffer", x.clearText(), 0);
        }
        for (String text : new String[] {"0r0x", "2r0", "0r16", "0r00", "0e0=100", "0r0;;1r0", ";0r0", SIXTY}) {
            DraftMerge x = with(three(), text);
            Due.refused(x, "run of " + text, Due.ARGUMENT, x::run);
            Due.is("the length of the buffer", x.clearText(), text.length());
        }
    }
}
