/** Promises 29 to 31: undo, the saved states and the digest. */
public final class UndoTest {
    public static void main(String[] args) {
        promise29Undo();
        promise29UndoEach();
        promise29UndoNothing();
        promise29BufferStays();
        promise30SavedStates();
        promise31Digest();
        Due.end("UndoTest");
    }

    private static void promise29Undo() {
        DraftMerge x = new DraftMerge();
        long[] digests = new long[11];
        for (int number = 0; number < 10; number++) {
            digests[number] = x.digest();
            x.addBase(number);
        }
        for (int left = 5; left >= 0; left--) {
            Due.is("undo", x.undo(), left);
            Due.is("digest", x.digest(), digests[4 + left]);
        }
        Due.is("six are undone", x.baseSize(), 4);
        Due.refused(x, "undo", Due.STATE, x::undo);
        x.addBase(50);
        x.addBase(60);
        Due.is("undo after more calls", x.undo(), 1);
        Due.isText("draft 0", Due.blocks(x, 0), "0:0 1:1 2:2 3:3 4:50");
    }

    private static void undone(DraftMerge x, String call, Runnable doCall) {
        String before = Due.summary(x);
        int saved = x.savedStates();
        doCall.run();
        Due.is(call + " saves", x.savedStates(), saved + 1);
        Due.is("undo of " + call, x.undo(), saved);
        Due.isText("undo of " + call + " restores", Due.summary(x), before);
    }

    private static void promise29UndoEach() {
        DraftMerge x = Due.withBase(10, 20);
        undone(x, "addBase", () -> x.addBase(30));
        undone(x, "edit", () -> x.edit(0, 0, 11));
        undone(x, "edit to the same", () -> x.edit(0, 0, 10));
        undone(x, "move", () -> x.move(1, 0, 1));
        undone(x, "move to the same", () -> x.move(1, 0, 0));
        undone(x, "insert", () -> x.insert(1, 1, 5));
        undone(x, "remove", () -> x.remove(0, 1));
        undone(x, "accept", x::accept);
        x.edit(0, 1, 21);
        x.edit(1, 1, 22);
        undone(x, "prefer", () -> x.prefer(1));
        undone(x, "choose", () -> x.choose(0, 1));
        Due.is("the choice is undone", x.open(), 1);
        Due.is("the preferred draft is undone", x.prefer(0), 0);
        x.choose(0, 1);
        x.accept();
        x.undo();
        Due.is("undo of accept brings choices back", x.choose(0, 0), 1);
    }

    private static void promise29UndoNothing() {
        DraftMerge x = new DraftMerge();
        Due.refused(x, "undo", Due.STATE, x::undo);
        x.prefer(1);
        Due.is("undo", x.undo(), 0);
        Due.refused(x, "undo", Due.STATE, x::undo);
    }

    private static void promise29BufferStays() {
        DraftMerge x = Due.withBase(10);
        Due.write(x, "0r0");
        x.undo();
        Due.is("the buffer stays", x.clearText(), 3);
    }

    private static void promise30SavedStates() {
        DraftMerge x = new DraftMerge();
        for (int calls = 1; calls <= 9; calls++) {
            x.prefer(0);
            Due.is("savedStates", x.savedStates(), calls < 6 ? calls : 6);
        }
        x.undo();
        Due.is("savedStates after undo", x.savedStates(), 5);
        x.size(0);
        x.append('0');
        x.clearText();
        x.firstError();
        x.digest();
        x.mergedSize();
        Due.is("savedStates after calls that save nothing", x.savedStates(), 5);
        Due.refused(x, "remove(0, 0)", Due.INDEX, () -> x.remove(0, 0));
        Due.is("savedStates after a call that throws", x.savedStates(), 5);
    }

    private static void promise31Digest() {
        Due.is("digest of an empty base", new DraftMerge().digest(), hash(0, 0, 0, 0, 0, 0, 0));
        DraftMerge x = Due.withBase(10, 20, 30);
        x.edit(0, 1, 21);
        x.edit(1, 1, 22);
        x.move(0, 0, 2);
        x.insert(1, 0, 40);
        Due.is("digest", x.digest(), hash(3, 4, 1, 1, 0,
                3, 1, 21, 2, 30, 0, 10,
                4, 3, 40, 0, 10, 1, 22, 2, 30,
                2, 0, 1, 1, 0, 0,
                3, 40, 1, 21, 2, 30, 0, 10,
                1, 1));
        x.choose(0, 1);
        x.accept();
        Due.is("digest after accept", x.digest(), hash(4, 4, 0, 0, 1,
                4, 0, 40, 1, 22, 2, 30, 3, 10,
                4, 0, 40, 1, 22, 2, 30, 3, 10,
                0, 0, 0, 0, 0, 0, 0, 0,
                0, 40, 1, 22, 2, 30, 3, 10));
        Due.write(x, "0e");
        long before = x.digest();
        x.append('1');
        Due.is("the buffer is no part of it", x.digest(), before);
    }

    private static long hash(long... values) {
        long hash = 8129;
        for (long value : values) {
            hash = 31 * hash + value;
        }
        return hash;
    }
}
