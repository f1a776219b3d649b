import java.util.ArrayList;
import java.util.List;
import java.util.function.Consumer;

/** The sentences of "Undo" and of "Exceptions". */
final class TermsUndo {
    private TermsUndo() {
    }

    static void check() {
        stateIsAllButTheBuffer();
        savedStatesAreNoState();
        savesEvenIfNothingChanges();
        savesNothingIfItThrows();
        atMost6States();
        refusedCallsChangeNothing();
        refusedTextCallsChangeNothing();
        refusedUndoChangesNothing();
        firstOfTheClause();
        none();
    }

    /** The answers tell each part of the state; the object is used up by this. */
    private static String parts(DraftMerge x) {
        StringBuilder text = new StringBuilder();
        text.append(Due.blocks(x, 0)).append(" | ").append(Due.blocks(x, 1));
        text.append(" | accepted ").append(x.accepted()).append(" digest ").append(x.digest());
        text.append(" choices");
        for (int conflict = 0; conflict < x.conflicts(); conflict++) {
            text.append(' ').append(x.choose(conflict, DraftMerge.NONE));
        }
        text.append(" number ").append(x.insert(0, 0, 1)).append(" preferred ").append(x.prefer(0));
        return text.toString();
    }

    /** Each part of the state is another one than in a new object: choices, preferred draft, numbers, accepted. */
    private static DraftMerge used() {
        DraftMerge x = Due.withBase(10, 20, 30);
        x.accept();
        x.prefer(1);
        Due.write(x, "0e0=11;1e0=12;0e1=21;1e1=22;0i3=40;0r3");
        x.run();
        x.choose(0, 0);
        return x;
    }

    private static void stateIsAllButTheBuffer() {
        Due.says("Undo", "The state consists of everything except the buffer and the saved states.");
        String want = "0:11 1:21 2:30 | 0:12 1:22 2:30 | accepted 1 digest " + used().digest()
                + " choices 0 -1 number 4 preferred 1";
        Due.isText("the parts of the state", parts(used()), want);
        DraftMerge x = used();
        x.choose(1, 1);
        x.accept();
        x.prefer(0);
        x.insert(1, 0, 50);
        Due.write(x, "0r0");
        for (int left = 5; left >= 2; left--) {
            Due.is("undo", x.undo(), left);
        }
        Due.is("the length of the buffer", x.clearText(), 3);
        Due.isText("the parts of the state after undo", parts(x), want);
        DraftMerge y = used();
        y.edit(0, 0, 10);
        y.choose(0, 1);
        y.accept();
        for (int left = 5; left >= 3; left--) {
            Due.is("undo", y.undo(), left);
        }
        Due.isText("the parts of the state after a conflict has disappeared and come back", parts(y), want);
    }

    private static void savedStatesAreNoState() {
        Due.says("Undo", "The state consists of everything except the buffer and the saved states.");
        DraftMerge x = Due.withBase(10, 20, 30);
        Due.is("undo", x.undo(), 2);
        Due.is("undo does not bring the saved states back", x.savedStates(), 2);
        Due.write(x, "0r0");
        x.addBase(40);
        x.clearText();
        x.undo();
        Due.is("undo does not bring the buffer back", x.clearText(), 0);
    }

    private static void saves(String call, DraftMerge x, Runnable doCall) {
        int saved = x.savedStates();
        long before = x.digest();
        doCall.run();
        Due.is("savedStates after " + call, x.savedStates(), saved + 1);
        Due.is("digest after " + call, x.digest(), before);
        Due.is("undo of " + call, x.undo(), saved);
    }

    private static void savesEvenIfNothingChanges() {
        Due.says("Undo", "Each method that is marked \"Undoable\" saves the state from before the call if it does not throw "
                + "an exception, even if nothing changes.");
        DraftMerge x = Due.withBase(10, 20);
        saves("edit to the same content", x, () -> x.edit(0, 1, 20));
        saves("move to the same position", x, () -> x.move(1, 1, 1));
        saves("prefer of the preferred draft", x, () -> x.prefer(0));
        x.edit(0, 0, 11);
        x.edit(1, 0, 12);
        saves("choose of NONE without a choice", x, () -> x.choose(0, DraftMerge.NONE));
        x.choose(0, 1);
        saves("choose of the choice", x, () -> x.choose(0, 1));
        DraftMerge y = Due.withBase(10, 20);
        Due.write(y, "0r2");
        saves("run of no command", y, y::run);
    }

    private static void savesNothingIfItThrows() {
        Due.says("Undo", "Each method that is marked \"Undoable\" saves the state from before the call if it does not throw "
                + "an exception, even if nothing changes.");
        DraftMerge x = Due.withBase(10, 20);
        x.edit(0, 0, 11);
        x.edit(1, 0, 12);
        List<Consumer<DraftMerge>> calls = List.of(y -> y.addBase(30), y -> y.edit(0, 2, 1), y -> y.move(0, 0, 2),
                y -> y.insert(0, 3, 1), y -> y.remove(1, 2), y -> y.choose(1, 0), y -> y.prefer(2), y -> y.accept(),
                y -> y.run());
        for (Consumer<DraftMerge> call : calls) {
            String got = "nothing";
            try {
                call.accept(x);
            } catch (RuntimeException e) {
                got = "an exception";
            }
            Due.isText("the call throws", got, "an exception");
            Due.is("savedStates", x.savedStates(), 4);
        }
        DraftMerge y = Due.withBase(10, 20);
        List<Consumer<DraftMerge>> answered = List.of(z -> z.addBase(30), z -> z.edit(0, 2, 1), z -> z.move(0, 0, 2),
                z -> z.insert(0, 3, 1));
        for (Consumer<DraftMerge> call : answered) {
            int saved = y.savedStates();
            call.accept(y);
            Due.is("savedStates", y.savedStates(), saved + 1);
        }
    }

    private static void atMost6States() {
        Due.says("Undo", "At most 6 states are saved; when one more is saved, the oldest one is discarded.");
        for (int calls = 5; calls <= 8; calls++) {
            DraftMerge x = Due.withBase(10);
            for (int content = 1; content <= calls - 1; content++) {
                x.edit(0, 0, content);
            }
            int saved = Math.min(calls, 6);
            Due.is("savedStates after " + calls + " calls", x.savedStates(), saved);
            for (int left = saved - 1; left >= 0; left--) {
                Due.is("undo", x.undo(), left);
            }
            Due.is("the oldest one saved is restored: baseSize", x.baseSize(), calls <= 6 ? 0 : 1);
            if (calls > 6) {
                Due.is("the oldest one saved is restored: content", x.content(0, 0), calls == 7 ? 10 : 1);
            }
            Due.refused(x, "one more undo", Due.STATE, x::undo);
        }
    }

    /** What the refused call leaves, asked in two ways: by undoing all, and by what the next calls answer. */
    private static void leavesAll(String call, DraftMerge[] untouched, DraftMerge[] refused) {
        Due.isText("the saved states after a refused " + call, undoneAll(refused[0]), undoneAll(untouched[0]));
        Due.isText("the buffer after a refused " + call, rest(refused[1]), rest(untouched[1]));
        Due.isText("the state after a refused " + call, parts(refused[1]), parts(untouched[1]));
    }

    private static String undoneAll(DraftMerge x) {
        StringBuilder text = new StringBuilder();
        for (int left = x.savedStates(); left > 0; left--) {
            text.append(x.digest()).append(' ').append(x.undo()).append(' ');
        }
        return text.append(x.digest()).toString();
    }

    private static String rest(DraftMerge x) {
        String before = x.firstError() + " " + x.digest();
        try {
            return before + " " + x.run() + " " + x.digest() + " " + x.undo();
        } catch (IllegalArgumentException e) {
            return before + " " + x.clearText();
        }
    }

    private interface Setup {
        DraftMerge make();
    }

    private static void leavesAll(String call, Setup setup, Class<? extends RuntimeException> want,
            Consumer<DraftMerge> doCall) {
        DraftMerge[] untouched = {setup.make(), setup.make()};
        DraftMerge[] refused = {setup.make(), setup.make()};
        for (DraftMerge x : refused) {
            Due.refused(x, call, want, () -> doCall.accept(x));
        }
        leavesAll(call, untouched, refused);
    }

    private static DraftMerge usedWithText() {
        DraftMerge x = used();
        Due.write(x, "0r1;1e0=5");
        return x;
    }

    private static void refusedCallsChangeNothing() {
        Due.says("Exceptions", "A call that throws an exception changes nothing.");
        Setup s = TermsUndo::usedWithText;
        leavesAll("addBase(100)", s, Due.ARGUMENT, x -> x.addBase(100));
        leavesAll("addBase(5)", s, Due.STATE, x -> x.addBase(5));
        leavesAll("edit(2, 0, 5)", s, Due.INDEX, x -> x.edit(2, 0, 5));
        leavesAll("edit(0, 3, 5)", s, Due.INDEX, x -> x.edit(0, 3, 5));
        leavesAll("edit(0, 0, 100)", s, Due.ARGUMENT, x -> x.edit(0, 0, 100));
        leavesAll("move(0, 0, 3)", s, Due.INDEX, x -> x.move(0, 0, 3));
        leavesAll("move(0, 3, 0)", s, Due.INDEX, x -> x.move(0, 3, 0));
        leavesAll("insert(0, 4, 5)", s, Due.INDEX, x -> x.insert(0, 4, 5));
        leavesAll("insert(0, 0, 100)", s, Due.ARGUMENT, x -> x.insert(0, 0, 100));
        leavesAll("remove(0, 3)", s, Due.INDEX, x -> x.remove(0, 3));
        leavesAll("choose(2, 1)", s, Due.INDEX, x -> x.choose(2, 1));
        leavesAll("choose(0, 2)", s, Due.ARGUMENT, x -> x.choose(0, 2));
        leavesAll("prefer(2)", s, Due.INDEX, x -> x.prefer(2));
        leavesAll("accept()", s, Due.STATE, x -> x.accept());
        leavesAll("size(2)", s, Due.INDEX, x -> x.size(2));
        leavesAll("block(0, 3)", s, Due.INDEX, x -> x.block(0, 3));
        leavesAll("content(0, 3)", s, Due.INDEX, x -> x.content(0, 3));
        leavesAll("change(0, 3)", s, Due.INDEX, x -> x.change(0, 3));
        leavesAll("moves(2)", s, Due.INDEX, x -> x.moves(2));
        leavesAll("mergedBlock(3)", s, Due.INDEX, x -> x.mergedBlock(3));
        leavesAll("mergedContent(3)", s, Due.INDEX, x -> x.mergedContent(3));
        leavesAll("conflictBlock(2)", s, Due.INDEX, x -> x.conflictBlock(2));
        leavesAll("conflictKind(2)", s, Due.INDEX, x -> x.conflictKind(2));
        leavesAll("similarity(2)", s, Due.INDEX, x -> x.similarity(2));
        leavesAll("append(127)", s, Due.ARGUMENT, x -> x.append(127));
    }

    private static DraftMerge withText(DraftMerge x, String text) {
        Due.write(x, text);
        return x;
    }

    private static void refusedTextCallsChangeNothing() {
        Due.says("Exceptions", "A call that throws an exception changes nothing.");
        leavesAll("run()", () -> withText(used(), "0r1;1e0="), Due.ARGUMENT, x -> x.run());
        leavesAll("run() of nothing", () -> withText(used(), ""), Due.ARGUMENT, x -> x.run());
        leavesAll("append('0')", () -> withText(used(), "0r14;0r0;0r0;0r0;0r0;0r0;0r0;0r0;0r0;0r0;0r0;0r0;0r0;0r0;0r0"),
                Due.STATE, x -> x.append('0'));
        DraftMerge x = withText(Due.withBase(10), "0e0=");
        Due.refused(x, "run()", Due.ARGUMENT, x::run);
        Due.is("append after a refused run", x.append('7'), 5);
        Due.is("run", x.run(), 1);
        Due.is("content(0, 0)", x.content(0, 0), 7);
    }

    private static void refusedUndoChangesNothing() {
        Due.says("Exceptions", "A call that throws an exception changes nothing.");
        Setup undoneAll = () -> {
            DraftMerge x = Due.withBase(10, 20, 30, 40, 50, 60, 70, 80);
            for (int left = 6; left > 0; left--) {
                x.undo();
            }
            return withText(x, "0r1;1e0=5");
        };
        leavesAll("undo()", undoneAll, Due.STATE, x -> x.undo());
        DraftMerge x = new DraftMerge();
        Due.refused(x, "undo()", Due.STATE, x::undo);
        x.addBase(10);
        x.addBase(20);
        Due.is("undo", x.undo(), 1);
        Due.is("baseSize", x.baseSize(), 1);
    }

    private static void first(String call, Setup setup, Class<? extends RuntimeException> want, Consumer<DraftMerge> doCall) {
        DraftMerge x = setup.make();
        Due.refused(x, call, want, () -> doCall.accept(x));
    }

    private static DraftMerge fullDraft() {
        DraftMerge x = new DraftMerge();
        for (int content = 0; content < 15; content++) {
            x.insert(0, 0, content);
        }
        return x;
    }

    private static DraftMerge usedNumbers() {
        DraftMerge x = new DraftMerge();
        for (int number = 0; number < 30; number++) {
            x.insert(0, 0, 1);
            x.remove(0, 0);
        }
        return x;
    }

    private static void firstOfTheClause() {
        Due.says("Exceptions", "If more than one exception applies to a call, the one that is listed first in its throws "
                + "clause is thrown.");
        Setup full = () -> Due.withBase(0, 1, 2, 3, 4, 5, 6, 7, 8, 9);
        first("addBase(10) to a full base", full, Due.STATE, x -> x.addBase(10));
        first("addBase(100) to a full base", full, Due.ARGUMENT, x -> x.addBase(100));
        first("addBase(-1) with changed drafts", TermsUndo::used, Due.ARGUMENT, x -> x.addBase(-1));
        first("addBase(100) after an insert", TermsUndo::fullDraft, Due.ARGUMENT, x -> x.addBase(100));
        first("edit(0, 0, 100)", TermsUndo::used, Due.ARGUMENT, x -> x.edit(0, 0, 100));
        first("edit(2, 0, 100)", TermsUndo::used, Due.INDEX, x -> x.edit(2, 0, 100));
        first("edit(0, 3, 100)", TermsUndo::used, Due.INDEX, x -> x.edit(0, 3, 100));
        first("edit(-1, -1, -1)", TermsUndo::used, Due.INDEX, x -> x.edit(-1, -1, -1));
        first("insert(0, 15, 99) into 15 blocks", TermsUndo::fullDraft, Due.STATE, x -> x.insert(0, 15, 99));
        first("insert(0, 15, 100) into 15 blocks", TermsUndo::fullDraft, Due.ARGUMENT, x -> x.insert(0, 15, 100));
        first("insert(0, 16, 99) into 15 blocks", TermsUndo::fullDraft, Due.INDEX, x -> x.insert(0, 16, 99));
        first("insert(0, 16, 100) into 15 blocks", TermsUndo::fullDraft, Due.INDEX, x -> x.insert(0, 16, 100));
        first("insert(2, 0, 100)", TermsUndo::fullDraft, Due.INDEX, x -> x.insert(2, 0, 100));
        first("insert(1, 0, 99) with 30 numbers", TermsUndo::usedNumbers, Due.STATE, x -> x.insert(1, 0, 99));
        first("insert(1, 0, -1) with 30 numbers", TermsUndo::usedNumbers, Due.ARGUMENT, x -> x.insert(1, 0, -1));
        first("insert(1, 1, 99) with 30 numbers", TermsUndo::usedNumbers, Due.INDEX, x -> x.insert(1, 1, 99));
        first("insert(-1, 0, 99) with 30 numbers", TermsUndo::usedNumbers, Due.INDEX, x -> x.insert(-1, 0, 99));
        first("choose(0, 2)", TermsUndo::used, Due.ARGUMENT, x -> x.choose(0, 2));
        first("choose(2, 2)", TermsUndo::used, Due.INDEX, x -> x.choose(2, 2));
        first("choose(-1, -2)", TermsUndo::used, Due.INDEX, x -> x.choose(-1, -2));
        Setup text = () -> withText(used(), "0r14;0r0;0r0;0r0;0r0;0r0;0r0;0r0;0r0;0r0;0r0;0r0;0r0;0r0;0r0");
        first("append(126) to 60 characters", text, Due.STATE, x -> x.append(126));
        first("append(127) to 60 characters", text, Due.ARGUMENT, x -> x.append(127));
        first("append(32) to 60 characters", text, Due.ARGUMENT, x -> x.append(32));
    }

    private static void none() {
        Due.says("Exceptions", "The constants: NONE = -1: There is no such number.");
        Due.is("NONE", DraftMerge.NONE, -1);
        DraftMerge x = used();
        Due.is("choose of a conflict without a choice", x.choose(1, 0), DraftMerge.NONE);
        Due.refused(x, "prefer(NONE)", Due.INDEX, () -> x.prefer(DraftMerge.NONE));
        Due.refused(x, "size(NONE)", Due.INDEX, () -> x.size(DraftMerge.NONE));
    }
}
