/** Compares answers with the ones that are due, and ends the test with exit code 1 if one is not. */
final class Due {
    static final Class<IndexOutOfBoundsException> INDEX = IndexOutOfBoundsException.class;
    static final Class<IllegalArgumentException> ARGUMENT = IllegalArgumentException.class;
    static final Class<IllegalStateException> STATE = IllegalStateException.class;

    private static int wrong = 0;

    private Due() {
    }

    static void is(String call, long got, long want) {
        if (got != want) {
            tell(call + " answered " + got + ", due is " + want);
        }
    }

    static void isDouble(String call, double got, double want) {
        if (got != want) {
            tell(call + " answered " + got + ", due is " + want);
        }
    }

    static void isText(String call, String got, String want) {
        if (!got.equals(want)) {
            tell(call + " answered " + got + ", due is " + want);
        }
    }

    /** The call must throw exactly this exception and change neither the state nor the saved states nor the buffer. */
    static void refused(DraftMerge x, String call, Class<? extends RuntimeException> want, Runnable doCall) {
        String before = summary(x);
        String got = "nothing";
        try {
            doCall.run();
        } catch (RuntimeException e) {
            got = e.getClass().getName();
        }
        isText(call + " throws", got, want.getName());
        isText(call + " leaves", summary(x), before);
    }

    static String blocks(DraftMerge x, int draft) {
        StringBuilder text = new StringBuilder();
        for (int p = 0; p < x.size(draft); p++) {
            text.append(p == 0 ? "" : " ").append(x.block(draft, p)).append(':').append(x.content(draft, p));
        }
        return text.toString();
    }

    static String merged(DraftMerge x) {
        StringBuilder text = new StringBuilder();
        for (int p = 0; p < x.mergedSize(); p++) {
            text.append(p == 0 ? "" : " ").append(x.mergedBlock(p)).append(':').append(x.mergedContent(p));
        }
        return text.toString();
    }

    static String conflicts(DraftMerge x) {
        StringBuilder text = new StringBuilder();
        for (int c = 0; c < x.conflicts(); c++) {
            text.append(c == 0 ? "" : " ").append(x.conflictBlock(c)).append('/').append(x.conflictKind(c));
        }
        return text.toString();
    }

    static String changes(DraftMerge x, int draft) {
        StringBuilder text = new StringBuilder();
        for (int b = 0; b < x.baseSize(); b++) {
            text.append(x.change(draft, b));
        }
        return text.toString();
    }

    static DraftMerge withBase(int... contents) {
        DraftMerge x = new DraftMerge();
        for (int content : contents) {
            x.addBase(content);
        }
        return x;
    }

    /** Puts the draft's blocks of the base into this order by moves; it must contain just these. */
    static void order(DraftMerge x, int draft, int... numbers) {
        for (int to = 0; to < numbers.length; to++) {
            int from = to;
            while (x.block(draft, from) != numbers[to]) {
                from++;
            }
            if (from != to) {
                x.move(draft, from, to);
            }
        }
    }

    static void write(DraftMerge x, String text) {
        for (int i = 0; i < text.length(); i++) {
            x.append(text.charAt(i));
        }
    }

    static String summary(DraftMerge x) {
        return x.digest() + " " + x.savedStates() + " " + x.firstError()
                + " " + blocks(x, 0) + " | " + blocks(x, 1) + " | " + merged(x) + " | " + conflicts(x);
    }

    static void end(String test) {
        if (wrong != 0) {
            System.out.println(test + ": " + wrong + " answers are not as due");
            System.exit(1);
        }
    }

    private static void tell(String line) {
        wrong++;
        System.out.println(line);
    }
}
