/**
 * Long runs of calls, the same on DraftMerge and on SlowModel; they are always the same, as they come from a fixed
 * sequence. What to call is asked of the model alone, and the calls are counted: only 512 are promised for an object.
 */
public final class ModelTest {
    private static final int RUNS = 240;
    private static final int CALLS = 512;
    private static final String[] KINDS = {"e", "m", "i", "r"};

    private long seed;
    private int calls = 0;
    private final DraftMerge x = new DraftMerge();
    private final SlowModel y = new SlowModel();

    private ModelTest(long seed) {
        this.seed = seed;
    }

    public static void main(String[] args) {
        for (int run = 1; run <= RUNS; run++) {
            new ModelTest(run * 7919L).compare(run);
        }
        Due.end("ModelTest");
    }

    private int below(int bound) {
        seed = seed * 6364136223846793005L + 1442695040888963407L;
        return (int) Math.floorMod(seed >>> 33, (long) bound);
    }

    private interface Call {
        String answer();
    }

    private static String told(Call call) {
        try {
            return call.answer();
        } catch (RuntimeException e) {
            return "throws " + e.getClass().getSimpleName();
        }
    }

    private void both(String name, Call ofClass, Call ofModel) {
        if (calls >= CALLS) {
            return;
        }
        calls++;
        Due.isText(name, told(ofClass), told(ofModel));
    }

    private void compare(int run) {
        int baseCalls = below(11);
        for (int call = 0; call < baseCalls; call++) {
            int content = below(4);
            both("run " + run + " addBase", () -> "" + x.addBase(content), () -> "" + y.addBase(content));
        }
        int acceptOften = below(3);
        while (calls < CALLS) {
            String name = "run " + run + " call " + calls + " ";
            if (below(5) < 3) {
                changeSomething(name, acceptOften);
            } else {
                askSomething(name);
            }
            both(name + "digest", () -> "" + x.digest(), () -> "" + y.digest());
        }
    }

    private int someDraft() {
        return below(40) == 0 ? below(5) - 2 : below(2);
    }

    /** A position that is mostly in the draft. */
    private int somePosition(int draft) {
        int size = draft == 0 || draft == 1 ? y.size(draft) : 3;
        return below(15) == 0 ? below(20) - 2 : below(size + 1);
    }

    private int someContent() {
        return below(25) == 0 ? below(2) * 101 - 1 : below(8) == 0 ? below(100) : below(4);
    }

    private void changeSomething(String name, int acceptOften) {
        int d = someDraft();
        int p = somePosition(d);
        int q = somePosition(d);
        int c = someContent();
        switch (below(16)) {
            case 0, 1, 2 -> both(name + "edit", () -> "" + x.edit(d, p, c), () -> "" + y.edit(d, p, c));
            case 3, 4, 5 -> both(name + "move", () -> "" + x.move(d, p, q), () -> "" + y.move(d, p, q));
            case 6, 7 -> both(name + "insert", () -> "" + x.insert(d, p, c), () -> "" + y.insert(d, p, c));
            case 8 -> both(name + "remove", () -> "" + x.remove(d, p), () -> "" + y.remove(d, p));
            case 9, 10 -> chooseSomething(name);
            case 11 -> both(name + "prefer", () -> "" + x.prefer(d), () -> "" + y.prefer(d));
            case 12 -> acceptOrAdd(name, acceptOften, c);
            case 13 -> both(name + "undo", () -> "" + x.undo(), () -> "" + y.undo());
            default -> writeAndRun(name);
        }
    }

    private void chooseSomething(String name) {
        int conflict = below(12) == 0 ? below(8) - 2 : below(Math.max(1, y.conflicts()));
        int draft = below(12) == 0 ? below(6) - 3 : below(5) / 2 - (below(4) == 0 ? 1 : 0);
        both(name + "choose", () -> "" + x.choose(conflict, draft), () -> "" + y.choose(conflict, draft));
    }

    private void acceptOrAdd(String name, int acceptOften, int content) {
        if (below(4) < acceptOften) {
            both(name + "accept", () -> "" + x.accept(), () -> "" + y.accept());
        } else {
            both(name + "addBase", () -> "" + x.addBase(content), () -> "" + y.addBase(content));
        }
    }

    private void writeAndRun(String name) {
        StringBuilder text = new StringBuilder();
        int commands = 1 + below(6);
        for (int command = 0; command < commands; command++) {
            text.append(command == 0 ? "" : ";").append(someCommand());
        }
        if (below(4) == 0) {
            text.setCharAt(below(text.length()), (char) ('0' + below(14)));
        }
        for (int i = 0; i < text.length(); i++) {
            int code = text.charAt(i);
            both(name + "append", () -> "" + x.append(code), () -> "" + y.append(code));
        }
        both(name + "firstError", () -> "" + x.firstError(), () -> "" + y.firstError());
        both(name + "run", () -> "" + x.run(), () -> "" + y.run());
        if (below(3) != 0) {
            both(name + "clearText", () -> "" + x.clearText(), () -> "" + y.clearText());
        }
    }

    private String someCommand() {
        int draft = below(2);
        String kind = KINDS[below(KINDS.length)];
        int first = below(y.size(draft) + 1) % 16;
        int second = kind.equals("m") ? below(y.size(draft) + 1) % 16 : below(5) == 0 ? below(100) : below(4);
        String tail = kind.equals("r") ? "" : (kind.equals("m") ? ">" : "=") + second;
        return draft + kind + first + tail;
    }

    private void askSomething(String name) {
        int d = someDraft();
        int p = somePosition(d);
        int m = below(y.mergedSize() + 2) - below(2);
        int c = below(y.conflicts() + 2) - below(2);
        switch (below(14)) {
            case 0 -> both(name + "block", () -> "" + x.block(d, p), () -> "" + y.block(d, p));
            case 1 -> both(name + "content", () -> "" + x.content(d, p), () -> "" + y.content(d, p));
            case 2 -> both(name + "change", () -> "" + x.change(d, p), () -> "" + y.change(d, p));
            case 3 -> both(name + "moves", () -> "" + x.moves(d), () -> "" + y.moves(d));
            case 4 -> both(name + "mergedBlock", () -> "" + x.mergedBlock(m), () -> "" + y.mergedBlock(m));
            case 5 -> both(name + "mergedContent", () -> "" + x.mergedContent(m), () -> "" + y.mergedContent(m));
            case 6 -> both(name + "conflictBlock", () -> "" + x.conflictBlock(c), () -> "" + y.conflictBlock(c));
            case 7 -> both(name + "conflictKind", () -> "" + x.conflictKind(c), () -> "" + y.conflictKind(c));
            case 8 -> both(name + "similarity", () -> "" + x.similarity(d), () -> "" + y.similarity(d));
            case 9 -> both(name + "savedStates", () -> "" + x.savedStates(), () -> "" + y.savedStates());
            case 10 -> both(name + "open", () -> "" + x.open(), () -> "" + y.open());
            case 11 -> both(name + "size", () -> "" + x.size(d), () -> "" + y.size(d));
            case 12 -> both(name + "baseSize", () -> "" + x.baseSize(), () -> "" + y.baseSize());
            default -> both(name + "accepted", () -> "" + x.accepted(), () -> "" + y.accepted());
        }
    }
}
