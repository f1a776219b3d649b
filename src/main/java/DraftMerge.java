import java.util.Arrays;

/** A three-way merge of a base and two drafts; the document of the project says what each call promises. */
public final class DraftMerge {
    public static final int NONE = -1;

    private static final int BASE_LIMIT = 10;
    private static final int DRAFT_LIMIT = 15;
    private static final int NUMBER_LIMIT = 30;
    private static final int TEXT_LIMIT = 60;
    private static final int SAVED_LIMIT = 6;
    private static final int MAX_CONTENT = 99;
    private static final int MAX_WRITTEN_POSITION = 15;
    private static final int LEAST_CODE = 33;
    private static final int GREATEST_CODE = 126;

    private static final int KINDS = 3;
    private static final int EDITED_TWICE = 1;
    private static final int REMOVED_OR_EDITED = 2;
    private static final int MOVED_TWICE = 3;

    private static final int EDITS = 1;
    private static final int MOVES = 2;
    private static final int REMOVES = 4;

    /** Places of a block of the base; a place that is a draft's is that draft's number, 0 or 1. */
    private static final int FREE_PLACE = 2;
    private static final int NOT_MERGED = 3;

    /** What keeps a command from being done; run() asks this without throwing. */
    private static final int FINE = 0;
    private static final int NO_SUCH_INDEX = 1;
    private static final int BAD_ARGUMENT = 2;
    private static final int BAD_STATE = 3;

    private static final long HASH_START = 8129L;
    private static final long HASH_FACTOR = 31L;

    private final State state = new State();
    private final History history = new History();
    private final Merge merge = new Merge();
    private final CommandText text = new CommandText();

    public DraftMerge() {
    }

    // ---- base and drafts

    public int addBase(int content) throws IllegalArgumentException, IllegalStateException {
        if (!isContent(content)) {
            throw new IllegalArgumentException("content is out of range");
        }
        if (!state.baseCanGrow()) {
            throw new IllegalStateException("the base is full, or a draft differs from it");
        }
        history.keep(state);
        return state.growBase(content);
    }

    public int edit(int draft, int position, int content)
            throws IndexOutOfBoundsException, IllegalArgumentException {
        int fault = editFault(draft, position, content);
        if (fault == NO_SUCH_INDEX) {
            throw new IndexOutOfBoundsException("no such draft or position");
        }
        if (fault == BAD_ARGUMENT) {
            throw new IllegalArgumentException("content is out of range");
        }
        history.keep(state);
        return state.draft(draft).replaceContent(position, content);
    }

    public int move(int draft, int from, int to) throws IndexOutOfBoundsException {
        if (moveFault(draft, from, to) != FINE) {
            throw new IndexOutOfBoundsException("no such draft or position");
        }
        history.keep(state);
        return state.draft(draft).shift(from, to);
    }

    public int insert(int draft, int position, int content)
            throws IndexOutOfBoundsException, IllegalArgumentException, IllegalStateException {
        int fault = insertFault(draft, position, content);
        if (fault == NO_SUCH_INDEX) {
            throw new IndexOutOfBoundsException("no such draft or position");
        }
        if (fault == BAD_ARGUMENT) {
            throw new IllegalArgumentException("content is out of range");
        }
        if (fault == BAD_STATE) {
            throw new IllegalStateException("the draft is full, or no number is left");
        }
        history.keep(state);
        return state.putNewBlock(draft, position, content);
    }

    public int remove(int draft, int position) throws IndexOutOfBoundsException {
        if (removeFault(draft, position) != FINE) {
            throw new IndexOutOfBoundsException("no such draft or position");
        }
        history.keep(state);
        return state.draft(draft).takeOut(position);
    }

    public int baseSize() {
        return state.base.count;
    }

    public int size(int draft) throws IndexOutOfBoundsException {
        if (!isDraft(draft)) {
            throw new IndexOutOfBoundsException("no such draft");
        }
        return state.draft(draft).count;
    }

    public int block(int draft, int position) throws IndexOutOfBoundsException {
        if (!hasPosition(draft, position)) {
            throw new IndexOutOfBoundsException("no such draft or position");
        }
        return state.draft(draft).numberAt(position);
    }

    public int content(int draft, int position) throws IndexOutOfBoundsException {
        if (!hasPosition(draft, position)) {
            throw new IndexOutOfBoundsException("no such draft or position");
        }
        return state.draft(draft).contentAt(position);
    }

    public int change(int draft, int block) throws IndexOutOfBoundsException {
        if (!isDraft(draft) || !state.base.holds(block)) {
            throw new IndexOutOfBoundsException("no such draft or block of the base");
        }
        merge.make(state);
        return merge.changesOf(draft).of(block);
    }

    public int moves(int draft) throws IndexOutOfBoundsException {
        if (!isDraft(draft)) {
            throw new IndexOutOfBoundsException("no such draft");
        }
        merge.make(state);
        return merge.changesOf(draft).countMoved(state.base.count);
    }

    // ---- merging

    public int mergedSize() {
        merge.make(state);
        return merge.merged.count;
    }

    public int mergedBlock(int position) throws IndexOutOfBoundsException {
        merge.make(state);
        if (!merge.merged.holds(position)) {
            throw new IndexOutOfBoundsException("no such block of the merged text");
        }
        return merge.merged.numberAt(position);
    }

    public int mergedContent(int position) throws IndexOutOfBoundsException {
        merge.make(state);
        if (!merge.merged.holds(position)) {
            throw new IndexOutOfBoundsException("no such block of the merged text");
        }
        return merge.merged.contentAt(position);
    }

    public int conflicts() {
        merge.make(state);
        return merge.conflictCount;
    }

    public int conflictBlock(int conflict) throws IndexOutOfBoundsException {
        merge.make(state);
        if (!merge.hasConflict(conflict)) {
            throw new IndexOutOfBoundsException("no such conflict");
        }
        return merge.blockOfConflict(conflict);
    }

    public int conflictKind(int conflict) throws IndexOutOfBoundsException {
        merge.make(state);
        if (!merge.hasConflict(conflict)) {
            throw new IndexOutOfBoundsException("no such conflict");
        }
        return merge.kindOfConflict(conflict);
    }

    public int choose(int conflict, int draft) throws IndexOutOfBoundsException, IllegalArgumentException {
        merge.make(state);
        if (!merge.hasConflict(conflict)) {
            throw new IndexOutOfBoundsException("no such conflict");
        }
        if (!isDraft(draft) && draft != NONE) {
            throw new IllegalArgumentException("neither a draft nor NONE");
        }
        history.keep(state);
        return state.setChoice(merge.blockOfConflict(conflict), merge.kindOfConflict(conflict), draft);
    }

    public int prefer(int draft) throws IndexOutOfBoundsException {
        if (!isDraft(draft)) {
            throw new IndexOutOfBoundsException("no such draft");
        }
        history.keep(state);
        int before = state.preferred;
        state.preferred = draft;
        return before;
    }

    public int open() {
        merge.make(state);
        return merge.countOpen(state);
    }

    public int accept() throws IllegalStateException {
        merge.make(state);
        if (merge.countOpen(state) > 0 || merge.merged.count > BASE_LIMIT) {
            throw new IllegalStateException("an open conflict, or too many blocks");
        }
        history.keep(state);
        state.takeAsBase(merge.merged);
        return state.base.count;
    }

    public int accepted() {
        return state.acceptedCount;
    }

    public double similarity(int draft) throws IndexOutOfBoundsException {
        if (!isDraft(draft)) {
            throw new IndexOutOfBoundsException("no such draft");
        }
        merge.make(state);
        Blocks blocks = state.draft(draft);
        int inAny = merge.merged.count + blocks.count - merge.merged.countShared(blocks, false);
        if (inAny <= 0) {
            return 1.0;
        }
        return (double) merge.merged.countShared(blocks, true) / (double) inAny;
    }

    // ---- command text

    public int append(int code) throws IllegalArgumentException, IllegalStateException {
        if (code < LEAST_CODE || code > GREATEST_CODE) {
            throw new IllegalArgumentException("code is out of range");
        }
        if (text.length >= TEXT_LIMIT) {
            throw new IllegalStateException("the buffer is full");
        }
        return text.putLast(code);
    }

    public int clearText() {
        return text.forget();
    }

    public int firstError() {
        return text.findError();
    }

    public int run() throws IllegalArgumentException {
        if (!text.isComplete()) {
            throw new IllegalArgumentException("the buffer is not a complete command text");
        }
        history.keep(state);
        int executed = executeText();
        text.forget();
        return executed;
    }

    // ---- undo

    public int undo() throws IllegalStateException {
        if (history.count <= 0) {
            throw new IllegalStateException("no state is saved");
        }
        return history.restoreLast(state);
    }

    public int savedStates() {
        return history.count;
    }

    public long digest() {
        merge.make(state);
        long hash = mixed(HASH_START, state.base.count);
        hash = mixed(hash, merge.merged.count);
        hash = mixed(hash, merge.conflictCount);
        hash = mixed(hash, merge.countOpen(state));
        hash = mixed(hash, state.acceptedCount);
        hash = mixedWithBlocks(mixed(hash, state.draft0.count), state.draft0);
        hash = mixedWithBlocks(mixed(hash, state.draft1.count), state.draft1);
        for (int block = 0; block < state.base.count; block++) {
            hash = mixed(hash, merge.changes0.of(block));
            hash = mixed(hash, merge.changes1.of(block));
        }
        hash = mixedWithBlocks(hash, merge.merged);
        for (int conflict = 0; conflict < merge.conflictCount; conflict++) {
            hash = mixed(hash, merge.blockOfConflict(conflict));
            hash = mixed(hash, merge.kindOfConflict(conflict));
        }
        return hash;
    }

    private static long mixedWithBlocks(long hash, Blocks blocks) {
        long result = hash;
        for (int position = 0; position < blocks.count; position++) {
            result = mixed(result, blocks.numberAt(position));
            result = mixed(result, blocks.contentAt(position));
        }
        return result;
    }

    private static long mixed(long hash, int value) {
        return HASH_FACTOR * hash + value;
    }

    // ---- what a call may do

    private static boolean isDraft(int draft) {
        return draft == 0 || draft == 1;
    }

    private static boolean isContent(int content) {
        return content >= 0 && content <= MAX_CONTENT;
    }

    private boolean hasPosition(int draft, int position) {
        return isDraft(draft) && state.draft(draft).holds(position);
    }

    private int editFault(int draft, int position, int content) {
        if (!hasPosition(draft, position)) {
            return NO_SUCH_INDEX;
        }
        return isContent(content) ? FINE : BAD_ARGUMENT;
    }

    private int moveFault(int draft, int from, int to) {
        return hasPosition(draft, from) && hasPosition(draft, to) ? FINE : NO_SUCH_INDEX;
    }

    private int insertFault(int draft, int position, int content) {
        if (!isDraft(draft) || position < 0 || position > state.draft(draft).count) {
            return NO_SUCH_INDEX;
        }
        if (!isContent(content)) {
            return BAD_ARGUMENT;
        }
        return state.draft(draft).isFull() || state.numbersUsed >= NUMBER_LIMIT ? BAD_STATE : FINE;
    }

    private int removeFault(int draft, int position) {
        return hasPosition(draft, position) ? FINE : NO_SUCH_INDEX;
    }

    // ---- the commands of a text

    /** Reads the text once more, and executes each command where its ';' or the end of the text comes. */
    private int executeText() {
        int executed = 0;
        text.beginReading();
        for (int index = 0; index <= text.length; index++) {
            int code = text.codeAt(index);
            if (index == text.length || code == ';') {
                if (!executeCommand()) {
                    return executed;
                }
                executed++;
            }
            text.take(code);
        }
        return executed;
    }

    /** Tells whether the command was executed; if its method would throw, nothing changes. */
    private boolean executeCommand() {
        int draft = text.draft;
        int first = text.first;
        int second = text.second;
        if (text.kind == 'e' && editFault(draft, first, second) == FINE) {
            state.draft(draft).replaceContent(first, second);
            return true;
        }
        if (text.kind == 'm' && moveFault(draft, first, second) == FINE) {
            state.draft(draft).shift(first, second);
            return true;
        }
        if (text.kind == 'i' && insertFault(draft, first, second) == FINE) {
            state.putNewBlock(draft, first, second);
            return true;
        }
        if (text.kind == 'r' && removeFault(draft, first) == FINE) {
            state.draft(draft).takeOut(first);
            return true;
        }
        return false;
    }

    // ---- rows of numbers: nothing else indexes one, so that no index can be out of range

    private static int cell(int[] row, int index) {
        return index >= 0 && index < row.length ? row[index] : NONE;
    }

    private static void setCell(int[] row, int index, int value) {
        if (index >= 0 && index < row.length) {
            row[index] = value;
        }
    }

    /** A sequence of blocks, each with its number and its content: the base, a draft or the merged text. */
    private static final class Blocks {
        final int[] numbers;
        final int[] contents;
        int count = 0;

        Blocks(int[] numbers, int[] contents) {
            this.numbers = numbers;
            this.contents = contents;
        }

        boolean holds(int position) {
            return position >= 0 && position < count;
        }

        boolean isFull() {
            return count >= numbers.length;
        }

        int numberAt(int position) {
            return holds(position) ? cell(numbers, position) : NONE;
        }

        int contentAt(int position) {
            return holds(position) ? cell(contents, position) : NONE;
        }

        /** The position of the block with this number, or NONE. */
        int find(int number) {
            for (int position = 0; position < count; position++) {
                if (numberAt(position) == number) {
                    return position;
                }
            }
            return NONE;
        }

        int contentOf(int number) {
            return contentAt(find(number));
        }

        int replaceContent(int position, int content) {
            int before = contentAt(position);
            setCell(contents, position, content);
            return before;
        }

        void putIn(int position, int number, int content) {
            if (isFull() || position < 0 || position > count) {
                return;
            }
            for (int to = count; to > position; to--) {
                setCell(numbers, to, cell(numbers, to - 1));
                setCell(contents, to, cell(contents, to - 1));
            }
            setCell(numbers, position, number);
            setCell(contents, position, content);
            count++;
        }

        void putLast(int number, int content) {
            putIn(count, number, content);
        }

        int takeOut(int position) {
            int number = numberAt(position);
            if (!holds(position)) {
                return number;
            }
            count--;
            for (int to = position; to < count; to++) {
                setCell(numbers, to, cell(numbers, to + 1));
                setCell(contents, to, cell(contents, to + 1));
            }
            return number;
        }

        int shift(int from, int to) {
            int content = contentAt(from);
            int number = takeOut(from);
            putIn(to, number, content);
            return number;
        }

        void clear() {
            count = 0;
        }

        void copyFrom(Blocks other) {
            count = Math.min(other.count, numbers.length);
            for (int position = 0; position < count; position++) {
                setCell(numbers, position, other.numberAt(position));
                setCell(contents, position, other.contentAt(position));
            }
        }

        boolean isLike(Blocks other) {
            if (count != other.count) {
                return false;
            }
            for (int position = 0; position < count; position++) {
                if (numberAt(position) != other.numberAt(position)
                        || contentAt(position) != other.contentAt(position)) {
                    return false;
                }
            }
            return true;
        }

        /** Counts the blocks that are in the other sequence too, all or only those with the same content. */
        int countShared(Blocks other, boolean withSameContent) {
            int shared = 0;
            for (int position = 0; position < count; position++) {
                int place = other.find(numberAt(position));
                if (place != NONE && (!withSameContent || other.contentAt(place) == contentAt(position))) {
                    shared++;
                }
            }
            return shared;
        }
    }

    /** All that undo() restores. */
    private static final class State {
        final Blocks base = new Blocks(new int[BASE_LIMIT], new int[BASE_LIMIT]);
        final Blocks draft0 = new Blocks(new int[DRAFT_LIMIT], new int[DRAFT_LIMIT]);
        final Blocks draft1 = new Blocks(new int[DRAFT_LIMIT], new int[DRAFT_LIMIT]);
        /** For each block of the base and each kind the chosen draft, or NONE. */
        final int[] choices = new int[BASE_LIMIT * KINDS];
        int numbersUsed = 0;
        int preferred = 0;
        int acceptedCount = 0;

        State() {
            Arrays.fill(choices, NONE);
        }

        Blocks draft(int draft) {
            return draft == 0 ? draft0 : draft1;
        }

        boolean baseCanGrow() {
            return !base.isFull() && numbersUsed == base.count && base.isLike(draft0) && base.isLike(draft1);
        }

        int growBase(int content) {
            int number = takeNumber();
            base.putLast(number, content);
            draft0.putLast(number, content);
            draft1.putLast(number, content);
            return number;
        }

        int putNewBlock(int draft, int position, int content) {
            int number = takeNumber();
            draft(draft).putIn(position, number, content);
            return number;
        }

        /** Numbers are never given twice, so the least one that no block had is the count of those given. */
        int takeNumber() {
            int number = numbersUsed;
            numbersUsed++;
            return number;
        }

        int choice(int block, int kind) {
            return cell(choices, choiceIndex(block, kind));
        }

        int choiceOrPreferred(int block, int kind) {
            int choice = choice(block, kind);
            return choice == NONE ? preferred : choice;
        }

        int setChoice(int block, int kind, int draft) {
            int before = choice(block, kind);
            setCell(choices, choiceIndex(block, kind), draft);
            return before;
        }

        static int choiceIndex(int block, int kind) {
            return block * KINDS + kind - 1;
        }

        void takeAsBase(Blocks merged) {
            base.clear();
            for (int position = 0; position < merged.count; position++) {
                base.putLast(position, merged.contentAt(position));
            }
            draft0.copyFrom(base);
            draft1.copyFrom(base);
            Arrays.fill(choices, NONE);
            numbersUsed = base.count;
            acceptedCount++;
        }

        void copyFrom(State other) {
            base.copyFrom(other.base);
            draft0.copyFrom(other.draft0);
            draft1.copyFrom(other.draft1);
            for (int index = 0; index < choices.length; index++) {
                setCell(choices, index, cell(other.choices, index));
            }
            numbersUsed = other.numbersUsed;
            preferred = other.preferred;
            acceptedCount = other.acceptedCount;
        }
    }

    /** The saved states, in a ring: when it is full, the newest one takes the place of the oldest one. */
    private static final class History {
        final State[] ring = new State[SAVED_LIMIT];
        int next = 0;
        int count = 0;

        History() {
            for (int index = 0; index < ring.length; index++) {
                ring[index] = new State();
            }
        }

        void keep(State state) {
            copy(state, slot(next));
            next = next + 1 < SAVED_LIMIT ? next + 1 : 0;
            count = count < SAVED_LIMIT ? count + 1 : count;
        }

        int restoreLast(State state) {
            next = next > 0 ? next - 1 : SAVED_LIMIT - 1;
            count = count > 0 ? count - 1 : 0;
            copy(slot(next), state);
            return count;
        }

        State slot(int index) {
            return index >= 0 && index < ring.length ? ring[index] : null;
        }

        static void copy(State from, State to) {
            if (from != null && to != null) {
                to.copyFrom(from);
            }
        }
    }

    /** What one draft does with each block of the base. */
    private static final class DraftChanges {
        final int[] changes = new int[BASE_LIMIT];
        /** For each position of the draft the length of the longest ascending sequence that begins there. */
        final int[] ascending = new int[DRAFT_LIMIT];

        int of(int block) {
            return cell(changes, block);
        }

        boolean edits(int block) {
            return (of(block) & EDITS) != 0;
        }

        boolean moved(int block) {
            return (of(block) & MOVES) != 0;
        }

        boolean removes(int block) {
            return of(block) == REMOVES;
        }

        int countMoved(int baseCount) {
            int movedCount = 0;
            for (int block = 0; block < baseCount; block++) {
                movedCount += moved(block) ? 1 : 0;
            }
            return movedCount;
        }

        void compare(Blocks base, Blocks draft) {
            for (int block = 0; block < base.count; block++) {
                setCell(changes, block, changeUnlessKept(block, base, draft));
            }
            int longest = measureAscending(base.count, draft);
            markKept(longest, base.count, draft);
        }

        /** The change if the block is not in the kept sequence, which is found only afterwards. */
        static int changeUnlessKept(int block, Blocks base, Blocks draft) {
            int position = draft.find(block);
            if (position == NONE) {
                return REMOVES;
            }
            return draft.contentAt(position) == base.contentAt(block) ? MOVES : MOVES + EDITS;
        }

        /** Returns the length of the longest ascending sequence of blocks of the base. */
        int measureAscending(int baseCount, Blocks draft) {
            int longest = 0;
            for (int position = draft.count - 1; position >= 0; position--) {
                int length = lengthFrom(position, baseCount, draft);
                setCell(ascending, position, length);
                longest = Math.max(longest, length);
            }
            return longest;
        }

        int lengthFrom(int position, int baseCount, Blocks draft) {
            int number = draft.numberAt(position);
            if (number >= baseCount) {
                return 0;
            }
            int best = 0;
            for (int later = position + 1; later < draft.count; later++) {
                if (draft.numberAt(later) > number) {
                    best = Math.max(best, cell(ascending, later));
                }
            }
            return best + 1;
        }

        void markKept(int longest, int baseCount, Blocks draft) {
            int last = NONE;
            int from = 0;
            for (int length = longest; length > 0; length--) {
                int kept = leastStart(length, last, from, draft);
                last = draft.numberAt(kept);
                from = kept + 1;
                setCell(changes, last, of(last) & ~MOVES);
            }
        }

        /** Where the block with the least number stands that begins an ascending sequence of this length. */
        int leastStart(int length, int last, int from, Blocks draft) {
            int least = NONE;
            for (int position = from; position < draft.count; position++) {
                int number = draft.numberAt(position);
                if (cell(ascending, position) == length && number > last
                        && (least == NONE || number < draft.numberAt(least))) {
                    least = position;
                }
            }
            return least;
        }
    }

    /** The merged text of a state and its conflicts; its rows are used again for each call. */
    private static final class Merge {
        final Blocks merged = new Blocks(new int[NUMBER_LIMIT], new int[NUMBER_LIMIT]);
        final DraftChanges changes0 = new DraftChanges();
        final DraftChanges changes1 = new DraftChanges();
        final int[] conflictBlocks = new int[BASE_LIMIT * KINDS];
        final int[] conflictKinds = new int[BASE_LIMIT * KINDS];
        int conflictCount = 0;
        final int[] places = new int[BASE_LIMIT];
        final int[] contents = new int[BASE_LIMIT];

        DraftChanges changesOf(int draft) {
            return draft == 0 ? changes0 : changes1;
        }

        boolean hasConflict(int conflict) {
            return conflict >= 0 && conflict < conflictCount;
        }

        int blockOfConflict(int conflict) {
            return cell(conflictBlocks, conflict);
        }

        int kindOfConflict(int conflict) {
            return cell(conflictKinds, conflict);
        }

        int countOpen(State state) {
            int openCount = 0;
            for (int conflict = 0; conflict < conflictCount; conflict++) {
                if (state.choice(blockOfConflict(conflict), kindOfConflict(conflict)) == NONE) {
                    openCount++;
                }
            }
            return openCount;
        }

        void make(State state) {
            changes0.compare(state.base, state.draft0);
            changes1.compare(state.base, state.draft1);
            merged.clear();
            conflictCount = 0;
            for (int block = 0; block < state.base.count; block++) {
                decide(block, state);
            }
            for (int block = 0; block < state.base.count; block++) {
                if (cell(places, block) == FREE_PLACE) {
                    merged.putLast(block, cell(contents, block));
                }
            }
            putBlocksOf(0, state);
            putBlocksOf(1, state);
        }

        void decide(int block, State state) {
            boolean removed0 = changes0.removes(block);
            boolean removed1 = changes1.removes(block);
            if (removed0 && removed1) {
                setCell(places, block, NOT_MERGED);
            } else if (removed0 || removed1) {
                decideRemoved(block, removed0 ? 0 : 1, state);
            } else {
                setCell(contents, block, contentFromBoth(block, state));
                setCell(places, block, placeFromBoth(block, state));
            }
        }

        void decideRemoved(int block, int remover, State state) {
            int other = 1 - remover;
            setCell(places, block, NOT_MERGED);
            if (!changesOf(other).edits(block)) {
                return;
            }
            addConflict(block, REMOVED_OR_EDITED);
            if (state.choiceOrPreferred(block, REMOVED_OR_EDITED) == other) {
                setCell(contents, block, state.draft(other).contentOf(block));
                setCell(places, block, changesOf(other).moved(block) ? other : FREE_PLACE);
            }
        }

        int contentFromBoth(int block, State state) {
            int content0 = state.draft0.contentOf(block);
            int content1 = state.draft1.contentOf(block);
            if (!changes0.edits(block)) {
                return content1;
            }
            if (!changes1.edits(block) || content0 == content1) {
                return content0;
            }
            addConflict(block, EDITED_TWICE);
            return state.choiceOrPreferred(block, EDITED_TWICE) == 0 ? content0 : content1;
        }

        int placeFromBoth(int block, State state) {
            boolean moved0 = changes0.moved(block);
            boolean moved1 = changes1.moved(block);
            if (!moved0 && !moved1) {
                return FREE_PLACE;
            }
            if (!moved0 || !moved1) {
                return moved0 ? 0 : 1;
            }
            if (numberBefore(block, state.draft0) == numberBefore(block, state.draft1)) {
                return 0;
            }
            addConflict(block, MOVED_TWICE);
            return state.choiceOrPreferred(block, MOVED_TWICE);
        }

        /** The number of the block directly before this one, or NONE. */
        static int numberBefore(int block, Blocks draft) {
            return draft.numberAt(draft.find(block) - 1);
        }

        void addConflict(int block, int kind) {
            setCell(conflictBlocks, conflictCount, block);
            setCell(conflictKinds, conflictCount, kind);
            conflictCount++;
        }

        void putBlocksOf(int draft, State state) {
            Blocks blocks = state.draft(draft);
            for (int position = 0; position < blocks.count; position++) {
                int number = blocks.numberAt(position);
                if (number >= state.base.count) {
                    merged.putIn(placeBehind(position, blocks), number, blocks.contentAt(position));
                } else if (cell(places, number) == draft) {
                    merged.putIn(placeBehind(position, blocks), number, cell(contents, number));
                }
            }
        }

        /** The place directly behind the nearest block before this position that is merged already. */
        int placeBehind(int position, Blocks blocks) {
            for (int before = position - 1; before >= 0; before--) {
                int place = merged.find(blocks.numberAt(before));
                if (place != NONE) {
                    return place + 1;
                }
            }
            return 0;
        }
    }

    /** The buffer, and what has been read of the command that the reading is in. */
    private static final class CommandText {
        final int[] codes = new int[TEXT_LIMIT];
        int length = 0;
        int draft = NONE;
        int kind = NONE;
        int first = NONE;
        boolean separated = false;
        int second = NONE;

        int codeAt(int index) {
            return index >= 0 && index < length ? cell(codes, index) : NONE;
        }

        int putLast(int code) {
            if (length < codes.length) {
                setCell(codes, length, code);
                length++;
            }
            return length;
        }

        int forget() {
            int before = length;
            length = 0;
            return before;
        }

        int findError() {
            beginReading();
            for (int index = 0; index < length; index++) {
                if (!take(codeAt(index))) {
                    return index;
                }
            }
            return length;
        }

        boolean isComplete() {
            return findError() == length && commandIsWhole();
        }

        void beginReading() {
            draft = NONE;
            kind = NONE;
            first = NONE;
            separated = false;
            second = NONE;
        }

        boolean commandIsWhole() {
            return (kind == 'r' ? first : second) != NONE;
        }

        /** Reads one character more; false if no command text goes on with it. */
        boolean take(int code) {
            if (code == ';' && commandIsWhole()) {
                beginReading();
                return true;
            }
            if (draft == NONE) {
                return takeDraft(code);
            }
            if (kind == NONE) {
                return takeKind(code);
            }
            return separated ? takeSecond(code) : takeFirst(code);
        }

        boolean takeDraft(int code) {
            if (code != '0' && code != '1') {
                return false;
            }
            draft = code - '0';
            return true;
        }

        boolean takeKind(int code) {
            if (code != 'e' && code != 'm' && code != 'i' && code != 'r') {
                return false;
            }
            kind = code;
            return true;
        }

        boolean takeFirst(int code) {
            if (first != NONE && kind != 'r' && code == (kind == 'm' ? '>' : '=')) {
                separated = true;
                return true;
            }
            int longer = withDigit(first, code, MAX_WRITTEN_POSITION);
            first = longer == NONE ? first : longer;
            return longer != NONE;
        }

        boolean takeSecond(int code) {
            int longer = withDigit(second, code, kind == 'm' ? MAX_WRITTEN_POSITION : MAX_CONTENT);
            second = longer == NONE ? second : longer;
            return longer != NONE;
        }

        /** The number with one digit more; NONE if it is none without a leading zero and up to the limit. */
        static int withDigit(int number, int code, int limit) {
            if (code < '0' || code > '9' || number == 0) {
                return NONE;
            }
            int longer = (number == NONE ? 0 : number * 10) + code - '0';
            return longer <= limit ? longer : NONE;
        }
    }
}
