import java.math.BigInteger;
import java.util.ArrayList;
import java.util.List;

/** The sentences of the promises 29 to 31: undo, the saved states and the digest. */
final class Promises29To31 {
    private static final String VALUES = "The values are: what baseSize(), mergedSize(), conflicts(), open() and accepted() "
            + "return; for each draft its size, and the number and the content of each of its blocks in their order; for "
            + "each block of the base what change() returns for the draft 0 and for the draft 1; for each block of the "
            + "merged text its number and its content; for each conflict its block and its kind.";

    private Promises29To31() {
    }

    static void check() {
        undo();
        undoInTheOrderOfSaving();
        undoRefused();
        savedStates();
        digestStart();
        digestOverflow();
        digestValues();
        digestOfOtherParts();
    }

    private static void undo() {
        Due.says("Promise 29", "Restores the state that was saved last, and removes it from the saved states.");
        DraftMerge x = Due.withBase(10, 20);
        x.edit(0, 0, 11);
        x.edit(0, 0, 12);
        x.undo();
        Due.is("content(0, 0) after one undo", x.content(0, 0), 11);
        Due.is("savedStates after one undo", x.savedStates(), 3);
        x.undo();
        Due.is("content(0, 0) after two undos", x.content(0, 0), 10);
        x.undo();
        Due.is("baseSize after three undos", x.baseSize(), 1);
        x.undo();
        Due.is("baseSize after four undos", x.baseSize(), 0);
        Due.is("savedStates", x.savedStates(), 0);
        Due.says("Promise 29", "Returns the number of saved states that are left.");
        DraftMerge y = Due.withBase(0, 1, 2, 3, 4, 5, 6);
        for (int left = 5; left >= 0; left--) {
            Due.is("undo", y.undo(), left);
            Due.is("savedStates", y.savedStates(), left);
        }
    }

    private static void undoInTheOrderOfSaving() {
        Due.says("Promise 29", "Restores the state that was saved last, and removes it from the saved states.");
        DraftMerge x = Due.withBase(10);
        List<Long> digests = new ArrayList<>();
        digests.add(new DraftMerge().digest());
        for (int round = 0; round < 30; round++) {
            for (int call = 0; call <= round % 4; call++) {
                digests.add(x.digest());
                x.edit(round % 2, 0, (round * 5 + call * 7) % 100);
            }
            while (digests.size() > 6) {
                digests.remove(0);
            }
            for (int call = 0; call <= round % 3; call++) {
                Due.is("undo", x.undo(), digests.size() - 1);
                Due.is("digest after undo", x.digest(), digests.remove(digests.size() - 1));
            }
        }
    }

    private static void undoRefused() {
        Due.says("Promise 29", "Throws IllegalStateException if no state is saved");
        DraftMerge x = new DraftMerge();
        Due.refused(x, "undo of a new object", Due.STATE, x::undo);
        x.prefer(0);
        Due.is("undo of one call", x.undo(), 0);
        Due.refused(x, "undo when all is undone", Due.STATE, x::undo);
        for (int calls = 0; calls < 7; calls++) {
            x.prefer(1);
        }
        for (int left = 5; left >= 0; left--) {
            Due.is("undo", x.undo(), left);
        }
        Due.refused(x, "undo of the 7th state", Due.STATE, x::undo);
        Due.is("the preferred draft when six of seven are undone", x.prefer(0), 1);
    }

    private static void savedStates() {
        Due.says("Promise 30", "Returns the number of saved states, 0 to 6.");
        DraftMerge x = new DraftMerge();
        Due.is("savedStates at first", x.savedStates(), 0);
        for (int calls = 1; calls <= 20; calls++) {
            x.prefer(calls % 2);
            Due.is("savedStates", x.savedStates(), Math.min(calls, 6));
        }
        for (int left = 5; left >= 0; left--) {
            x.undo();
            Due.is("savedStates after undo", x.savedStates(), left);
        }
        Due.refused(x, "undo", Due.STATE, x::undo);
        Due.is("savedStates after a refused undo", x.savedStates(), 0);
        x.append('0');
        x.firstError();
        x.clearText();
        x.open();
        x.digest();
        x.similarity(0);
        Due.is("savedStates after calls that are not undoable", x.savedStates(), 0);
    }

    /** The hash as the document tells it, with whole numbers of any size, cut to 64 bits only in the end. */
    private static long hash(List<Integer> values) {
        BigInteger hash = BigInteger.valueOf(8129);
        for (int value : values) {
            hash = hash.multiply(BigInteger.valueOf(31)).add(BigInteger.valueOf(value));
        }
        return hash.longValue();
    }

    private static void digestStart() {
        Due.says("Promise 31", "Computes a hash of the state.");
        Due.is("digest of two new objects", new DraftMerge().digest(), new DraftMerge().digest());
        DraftMerge x = Due.withBase(10, 20);
        long before = x.digest();
        Due.is("digest once more", x.digest(), before);
        x.edit(1, 1, 21);
        x.undo();
        Due.is("digest after undo", x.digest(), before);
        Due.says("Promise 31", "The hash starts at 8129.");
        long empty = 8129L * 31 * 31 * 31 * 31 * 31 * 31 * 31;
        Due.is("digest of seven values 0", new DraftMerge().digest(), empty);
    }

    private static void digestOverflow() {
        Due.says("Promise 31", "For each value v of the following list, in order, the hash becomes 31 * hash + v, in long "
                + "arithmetic with overflow.");
        Due.is("digest of few values", new DraftMerge().digest(), hash(List.of(0, 0, 0, 0, 0, 0, 0)));
        Due.is("digest of one block", Due.withBase(10).digest(),
                hash(List.of(1, 1, 0, 0, 0, 1, 0, 10, 1, 0, 10, 0, 0, 0, 10)));
        DraftMerge x = new DraftMerge();
        for (int number = 0; number < 30; number++) {
            x.insert(number % 2, 0, 99 - number);
        }
        Due.is("digest of 127 values", x.digest(), hash(values(x)));
        DraftMerge most = TermsMerging.mostConflicts();
        Due.is("digest with the most conflicts", most.digest(), hash(values(most)));
    }

    private static List<Integer> values(DraftMerge x) {
        List<Integer> values = new ArrayList<>(
                List.of(x.baseSize(), x.mergedSize(), x.conflicts(), x.open(), x.accepted()));
        for (int draft = 0; draft < 2; draft++) {
            int size = x.size(draft);
            values.add(size);
            for (int position = 0; position < size; position++) {
                values.add(x.block(draft, position));
                values.add(x.content(draft, position));
            }
        }
        for (int block = 0; block < values.get(0); block++) {
            values.add(x.change(0, block));
            values.add(x.change(1, block));
        }
        for (int position = 0; position < values.get(1); position++) {
            values.add(x.mergedBlock(position));
            values.add(x.mergedContent(position));
        }
        for (int conflict = 0; conflict < values.get(2); conflict++) {
            values.add(x.conflictBlock(conflict));
            values.add(x.conflictKind(conflict));
        }
        return values;
    }

    private static void digestValues() {
        Due.says("Promise 31", VALUES);
        DraftMerge x = Due.withBase(10, 20, 30);
        Due.write(x, "0m2>0;0e0=31;1e2=32;1r0;1i2=50");
        x.run();
        List<Integer> heads = List.of(3, 3, 1, 1, 0);
        List<Integer> drafts = List.of(3, 2, 31, 0, 10, 1, 20, 3, 1, 20, 2, 32, 3, 50);
        Due.is("digest of a small state", x.digest(), hash(joined(heads, drafts, List.of(0, 4, 0, 0, 3, 1),
                List.of(2, 31, 3, 50, 1, 20), List.of(2, 1))));
        Due.says("Promise 31", "Returns the hash.");
        x.choose(0, 1);
        Due.is("digest with a choice", x.digest(), hash(joined(List.of(3, 3, 1, 0, 0), drafts, List.of(0, 4, 0, 0, 3, 1),
                List.of(2, 32, 3, 50, 1, 20), List.of(2, 1))));
        x.accept();
        Due.is("digest when it is accepted", x.digest(), hash(joined(List.of(3, 3, 0, 0, 1),
                List.of(3, 0, 32, 1, 50, 2, 20, 3, 0, 32, 1, 50, 2, 20), List.of(0, 0, 0, 0, 0, 0),
                List.of(0, 32, 1, 50, 2, 20), List.of())));
    }

    private static List<Integer> joined(List<Integer> heads, List<Integer> drafts, List<Integer> changes,
            List<Integer> merged, List<Integer> conflicts) {
        List<Integer> all = new ArrayList<>(heads);
        all.addAll(drafts);
        all.addAll(changes);
        all.addAll(merged);
        all.addAll(conflicts);
        return all;
    }

    private static void digestOfOtherParts() {
        Due.says("Promise 31", VALUES);
        DraftMerge x = Due.withBase(10, 20);
        long before = x.digest();
        x.prefer(1);
        Due.is("digest with another preferred draft", x.digest(), before);
        Due.write(x, "0r0");
        Due.is("digest with a text in the buffer", x.digest(), before);
        x.edit(0, 0, 10);
        Due.is("digest with another number of saved states", x.digest(), before);
        x.insert(0, 0, 5);
        x.remove(0, 0);
        Due.is("digest with another next number", x.digest(), before);
    }
}
