import java.util.function.Consumer;
import java.util.function.Supplier;

/** Compares answers with the ones that are due, and ends the test with exit code 1 if one is not. */
final class Due {
    static final Class<IndexOutOfBoundsException> INDEX = IndexOutOfBoundsException.class;
    static final Class<IllegalArgumentException> ARGUMENT = IllegalArgumentException.class;
    static final Class<IllegalStateException> STATE = IllegalStateException.class;

    private static final long LIMIT_MILLIS = 300_000;

    private static int wrong = 0;
    private static volatile String named = "";

    static {
        Thread watch = new Thread(Due::endIfStuck);
        watch.setDaemon(true);
        watch.start();
    }

    private Due() {
    }

    /** A call that does not end must fail the test, not hold it for ever. */
    private static void endIfStuck() {
        try {
            Thread.sleep(LIMIT_MILLIS);
        } catch (InterruptedException e) {
            return;
        }
        System.out.println((named.isEmpty() ? "" : "[" + named + "] ") + "a call does not end");
        Runtime.getRuntime().halt(1);
    }

    /** A call with one argument, which is tried at its bounds. */
    interface Call {
        void with(DraftMerge x, int argument);
    }

    /** Names the sentence of the document that the next answers are due by. */
    static void says(String section, String sentence) {
        Document.name(section, sentence);
        named = section + ": " + sentence;
    }

    static void is(String call, long got, long want) {
        if (got != want) {
            tell(call + " answered " + got + ", due is " + want);
        }
    }

    static void isDouble(String call, double got, double want) {
        if (got != want) {
            tell(call + " answered " + got + ", due is " + want);
        }
    }

    static void isText(String call, String got, String want) {
        if (!got.equals(want)) {
            tell(call + " answered " + got + ", due is " + want);
        }
    }

    static void answered(String call, Runnable doCall) {
        try {
            doCall.run();
        } catch (RuntimeException e) {
            tell(call + " throws " + e.getClass().getName() + ", due is an answer");
        }
    }

    /** On new objects: the least and the greatest argument are answered, those beside them and the extremes are refused. */
    static void bounds(Supplier<DraftMerge> made, String call, Class<? extends RuntimeException> want,
            int least, int greatest, Call doCall) {
        for (int argument : new int[] {least, greatest}) {
            DraftMerge x = made.get();
            answered(call + " with " + argument, () -> doCall.with(x, argument));
        }
        for (int argument : new int[] {least - 1, greatest + 1, Integer.MIN_VALUE, Integer.MAX_VALUE}) {
            DraftMerge x = made.get();
            refused(x, call + " with " + argument, want, () -> doCall.with(x, argument));
        }
    }

    /** The call must throw exactly this exception and change neither the state nor the saved states nor the buffer. */
    static void refused(DraftMerge x, String call, Class<? extends RuntimeException> want, Runnable doCall) {
        String before = summary(x);
        String got = "nothing";
        try {
            doCall.run();
        } catch (RuntimeException e) {
            got = e.getClass().getName();
        }
        isText(call + " throws", got, want.getName());
        isText(call + " leaves", summary(x), before);
    }

    /** The call that is answered is undone; the one that is refused saves nothing. */
    static void undoable(Supplier<DraftMerge> made, String call, Consumer<DraftMerge> doCall,
            Consumer<DraftMerge> doRefused) {
        undone(made, call, doCall);
        savesNothing(made, call, doRefused);
    }

    /** The call saves one state, and undo brings the state before it back. */
    static void undone(Supplier<DraftMerge> made, String call, Consumer<DraftMerge> doCall) {
        DraftMerge x = made.get();
        String before = summary(x);
        int saved = x.savedStates();
        answered(call, () -> doCall.accept(x));
        is("savedStates after " + call, x.savedStates(), saved + 1);
        is("undo of " + call, x.undo(), saved);
        isText("after undo of " + call, summary(x), before);
    }

    static void savesNothing(Supplier<DraftMerge> made, String call, Consumer<DraftMerge> doRefused) {
        DraftMerge x = made.get();
        int saved = x.savedStates();
        try {
            doRefused.accept(x);
            tell(call + " that is to be refused is answered");
        } catch (RuntimeException e) {
            is("savedStates after a refused " + call, x.savedStates(), saved);
        }
    }

    static String blocks(DraftMerge x, int draft) {
        StringBuilder text = new StringBuilder();
        for (int p = 0; p < x.size(draft); p++) {
            text.append(p == 0 ? "" : " ").append(x.block(draft, p)).append(':').append(x.content(draft, p));
        }
        return text.toString();
    }

    static String merged(DraftMerge x) {
        StringBuilder text = new StringBuilder();
        for (int p = 0; p < x.mergedSize(); p++) {
            text.append(p == 0 ? "" : " ").append(x.mergedBlock(p)).append(':').append(x.mergedContent(p));
        }
        return text.toString();
    }

    static String conflicts(DraftMerge x) {
        StringBuilder text = new StringBuilder();
        for (int c = 0; c < x.conflicts(); c++) {
            text.append(c == 0 ? "" : " ").append(x.conflictBlock(c)).append('/').append(x.conflictKind(c));
        }
        return text.toString();
    }

    static String changes(DraftMerge x, int draft) {
        StringBuilder text = new StringBuilder();
        for (int b = 0; b < x.baseSize(); b++) {
            text.append(x.change(draft, b));
        }
        return text.toString();
    }

    static DraftMerge withBase(int... contents) {
        DraftMerge x = new DraftMerge();
        for (int content : contents) {
            x.addBase(content);
        }
        return x;
    }

    /** Puts the draft's blocks of the base into this order by moves; it must contain just these. */
    static void order(DraftMerge x, int draft, int... numbers) {
        for (int to = 0; to < numbers.length; to++) {
            int from = to;
            while (x.block(draft, from) != numbers[to]) {
                from++;
            }
            if (from != to) {
                x.move(draft, from, to);
            }
        }
    }

    static void write(DraftMerge x, String text) {
        for (int i = 0; i < text.length(); i++) {
            x.append(text.charAt(i));
        }
    }

    /** Few calls, as what an object answers after its 512th call is free; the digest tells the rest of the state. */
    static String summary(DraftMerge x) {
        return x.digest() + " " + x.savedStates() + " " + x.firstError();
    }

    static void end(String test) {
        if (wrong != 0) {
            System.out.println(test + ": " + wrong + " answers are not as due");
            System.exit(1);
        }
    }

    private static void tell(String line) {
        tellOfTests(named.isEmpty() ? line : "[" + named + "] " + line);
    }

    /** What is wrong with the tests themselves, whatever sentence is named. */
    static void tellOfTests(String line) {
        wrong++;
        System.out.println(line);
    }
}
