import java.util.ArrayList;
import java.util.Collections;
import java.util.HashMap;
import java.util.List;
import java.util.Map;
import java.util.regex.Matcher;
import java.util.regex.Pattern;

/** The document once more, written without care for speed or for LANGUAGE.md, so that the class has a second opinion. */
final class SlowModel {
    private static final String POSITION = "(1[0-5]|[0-9])";
    private static final String CONTENT = "([1-9][0-9]|[0-9])";
    private static final String COMMAND = "[01](e" + POSITION + "=" + CONTENT + "|m" + POSITION + ">" + POSITION
            + "|i" + POSITION + "=" + CONTENT + "|r" + POSITION + ")";
    private static final Pattern TEXT = Pattern.compile(COMMAND + "(;" + COMMAND + ")*");

    private record Block(int number, int content) {
    }

    private record Conflict(int block, int kind) {
    }

    private static final class Snapshot {
        List<Integer> base = new ArrayList<>();
        List<List<Block>> drafts = new ArrayList<>(List.of(new ArrayList<>(), new ArrayList<>()));
        int numbers = 0;
        Map<Conflict, Integer> choices = new HashMap<>();
        int preferred = 0;
        int accepted = 0;

        Snapshot copy() {
            Snapshot s = new Snapshot();
            s.base = new ArrayList<>(base);
            s.drafts = new ArrayList<>(List.of(new ArrayList<>(drafts.get(0)), new ArrayList<>(drafts.get(1))));
            s.numbers = numbers;
            s.choices = new HashMap<>(choices);
            s.preferred = preferred;
            s.accepted = accepted;
            return s;
        }
    }

    private record Merged(List<Block> blocks, List<Conflict> conflicts) {
    }

    private Snapshot now = new Snapshot();
    private final List<Snapshot> saved = new ArrayList<>();
    private String buffer = "";

    private void save(Snapshot before) {
        saved.add(before);
        if (saved.size() > 6) {
            saved.remove(0);
        }
    }

    private static void index(boolean right) {
        if (!right) {
            throw new IndexOutOfBoundsException();
        }
    }

    private static void argument(boolean right) {
        if (!right) {
            throw new IllegalArgumentException();
        }
    }

    private static void state(boolean right) {
        if (!right) {
            throw new IllegalStateException();
        }
    }

    private List<Block> draft(int d) {
        index(d >= 0 && d <= 1);
        return now.drafts.get(d);
    }

    private static boolean in(int x, int least, int greatest) {
        return x >= least && x <= greatest;
    }

    private List<Block> baseBlocks() {
        List<Block> blocks = new ArrayList<>();
        for (int content : now.base) {
            blocks.add(new Block(blocks.size(), content));
        }
        return blocks;
    }

    int addBase(int content) {
        argument(in(content, 0, 99));
        List<Block> base = baseBlocks();
        state(base.size() < 10 && now.numbers == base.size() && base.equals(now.drafts.get(0))
                && base.equals(now.drafts.get(1)));
        save(now.copy());
        int number = now.numbers++;
        now.base.add(content);
        now.drafts.get(0).add(new Block(number, content));
        now.drafts.get(1).add(new Block(number, content));
        return number;
    }

    private int plainEdit(int d, int p, int content) {
        index(in(p, 0, draft(d).size() - 1));
        argument(in(content, 0, 99));
        Block old = draft(d).get(p);
        draft(d).set(p, new Block(old.number, content));
        return old.content;
    }

    private int plainMove(int d, int from, int to) {
        index(in(from, 0, draft(d).size() - 1) && in(to, 0, draft(d).size() - 1));
        Block b = draft(d).remove(from);
        draft(d).add(to, b);
        return b.number;
    }

    private int plainInsert(int d, int p, int content) {
        index(in(p, 0, draft(d).size()));
        argument(in(content, 0, 99));
        state(draft(d).size() < 15 && now.numbers < 30);
        draft(d).add(p, new Block(now.numbers, content));
        return now.numbers++;
    }

    private int plainRemove(int d, int p) {
        index(in(p, 0, draft(d).size() - 1));
        return draft(d).remove(p).number;
    }

    int edit(int d, int p, int content) {
        Snapshot before = now.copy();
        int answer = plainEdit(d, p, content);
        save(before);
        return answer;
    }

    int move(int d, int from, int to) {
        Snapshot before = now.copy();
        int answer = plainMove(d, from, to);
        save(before);
        return answer;
    }

    int insert(int d, int p, int content) {
        Snapshot before = now.copy();
        int answer = plainInsert(d, p, content);
        save(before);
        return answer;
    }

    int remove(int d, int p) {
        Snapshot before = now.copy();
        int answer = plainRemove(d, p);
        save(before);
        return answer;
    }

    int baseSize() {
        return now.base.size();
    }

    int size(int d) {
        return draft(d).size();
    }

    int block(int d, int p) {
        index(in(p, 0, draft(d).size() - 1));
        return draft(d).get(p).number;
    }

    int content(int d, int p) {
        index(in(p, 0, draft(d).size() - 1));
        return draft(d).get(p).content;
    }

    private static int find(List<Block> blocks, int number) {
        for (int p = 0; p < blocks.size(); p++) {
            if (blocks.get(p).number == number) {
                return p;
            }
        }
        return -1;
    }

    /** Looks at every subsequence. */
    private List<Integer> kept(int d) {
        List<Integer> order = new ArrayList<>();
        for (Block b : draft(d)) {
            if (b.number < now.base.size()) {
                order.add(b.number);
            }
        }
        List<Integer> best = new ArrayList<>();
        for (int mask = 0; mask < 1 << order.size(); mask++) {
            List<Integer> some = new ArrayList<>();
            for (int i = 0; i < order.size(); i++) {
                if ((mask >> i & 1) != 0) {
                    some.add(order.get(i));
                }
            }
            List<Integer> sorted = new ArrayList<>(some);
            Collections.sort(sorted);
            if (some.equals(sorted) && (some.size() > best.size() || some.size() == best.size() && less(some, best))) {
                best = some;
            }
        }
        return best;
    }

    private static boolean less(List<Integer> a, List<Integer> b) {
        for (int i = 0; i < a.size(); i++) {
            if (!a.get(i).equals(b.get(i))) {
                return a.get(i) < b.get(i);
            }
        }
        return false;
    }

    private int changeWith(int d, int block, List<Integer> kept) {
        int p = find(draft(d), block);
        if (p < 0) {
            return 4;
        }
        return (draft(d).get(p).content != now.base.get(block) ? 1 : 0) + (kept.contains(block) ? 0 : 2);
    }

    int change(int d, int block) {
        draft(d);
        index(in(block, 0, now.base.size() - 1));
        return changeWith(d, block, kept(d));
    }

    int moves(int d) {
        int count = 0;
        List<Integer> kept = kept(d);
        for (int block = 0; block < now.base.size(); block++) {
            count += find(draft(d), block) >= 0 && !kept.contains(block) ? 1 : 0;
        }
        return count;
    }

    private int choice(Conflict c) {
        return now.choices.getOrDefault(c, now.preferred);
    }

    private Merged merge() {
        List<Conflict> conflicts = new ArrayList<>();
        Map<Integer, Integer> contents = new HashMap<>();
        Map<Integer, String> places = new HashMap<>();
        List<List<Integer>> kept = List.of(kept(0), kept(1));
        for (int b = 0; b < now.base.size(); b++) {
            int[] change = {changeWith(0, b, kept.get(0)), changeWith(1, b, kept.get(1))};
            int[] own = {contentIn(0, b), contentIn(1, b)};
            if (change[0] == 4 && change[1] == 4) {
                continue;
            }
            if (change[0] == 4 || change[1] == 4) {
                int stays = change[0] == 4 ? 1 : 0;
                if (change[stays] % 2 == 1) {
                    Conflict c = new Conflict(b, 2);
                    conflicts.add(c);
                    if (choice(c) == stays) {
                        contents.put(b, own[stays]);
                        places.put(b, change[stays] == 3 ? "" + stays : "free");
                    }
                }
                continue;
            }
            boolean both = change[0] % 2 == 1 && change[1] % 2 == 1;
            if (both && own[0] != own[1]) {
                Conflict c = new Conflict(b, 1);
                conflicts.add(c);
                contents.put(b, own[choice(c)]);
            } else {
                contents.put(b, change[0] % 2 == 1 ? own[0] : change[1] % 2 == 1 ? own[1] : now.base.get(b));
            }
            if (change[0] >= 2 && change[1] >= 2) {
                int p0 = find(draft(0), b);
                int p1 = find(draft(1), b);
                String before0 = p0 == 0 ? "none" : "" + draft(0).get(p0 - 1).number;
                String before1 = p1 == 0 ? "none" : "" + draft(1).get(p1 - 1).number;
                if (before0.equals(before1)) {
                    places.put(b, "0");
                } else {
                    Conflict c = new Conflict(b, 3);
                    conflicts.add(c);
                    places.put(b, "" + choice(c));
                }
            } else {
                places.put(b, change[0] >= 2 ? "0" : change[1] >= 2 ? "1" : "free");
            }
        }
        return new Merged(text(contents, places), conflicts);
    }

    private int contentIn(int d, int block) {
        int p = find(draft(d), block);
        return p < 0 ? -1 : draft(d).get(p).content;
    }

    private List<Block> text(Map<Integer, Integer> contents, Map<Integer, String> places) {
        List<Block> text = new ArrayList<>();
        for (int b = 0; b < now.base.size(); b++) {
            if ("free".equals(places.get(b))) {
                text.add(new Block(b, contents.get(b)));
            }
        }
        for (int d = 0; d < 2; d++) {
            Block nearest = null;
            for (Block b : draft(d)) {
                boolean isNew = b.number >= now.base.size();
                if (isNew || ("" + d).equals(places.get(b.number))) {
                    Block put = new Block(b.number, isNew ? b.content : contents.get(b.number));
                    text.add(nearest == null ? 0 : find(text, nearest.number) + 1, put);
                }
                if (find(text, b.number) >= 0) {
                    nearest = b;
                }
            }
        }
        return text;
    }

    int mergedSize() {
        return merge().blocks.size();
    }

    int mergedBlock(int p) {
        List<Block> text = merge().blocks;
        index(in(p, 0, text.size() - 1));
        return text.get(p).number;
    }

    int mergedContent(int p) {
        List<Block> text = merge().blocks;
        index(in(p, 0, text.size() - 1));
        return text.get(p).content;
    }

    int conflicts() {
        return merge().conflicts.size();
    }

    private Conflict conflict(int c) {
        List<Conflict> conflicts = merge().conflicts;
        index(in(c, 0, conflicts.size() - 1));
        return conflicts.get(c);
    }

    int conflictBlock(int c) {
        return conflict(c).block;
    }

    int conflictKind(int c) {
        return conflict(c).kind;
    }

    int choose(int c, int d) {
        Conflict about = conflict(c);
        argument(in(d, -1, 1));
        save(now.copy());
        Integer before = d == -1 ? now.choices.remove(about) : now.choices.put(about, d);
        return before == null ? -1 : before;
    }

    int prefer(int d) {
        draft(d);
        save(now.copy());
        int before = now.preferred;
        now.preferred = d;
        return before;
    }

    int open() {
        int count = 0;
        for (Conflict c : merge().conflicts) {
            count += now.choices.containsKey(c) ? 0 : 1;
        }
        return count;
    }

    int accept() {
        List<Block> text = merge().blocks;
        state(open() == 0 && text.size() <= 10);
        save(now.copy());
        Snapshot next = new Snapshot();
        for (Block b : text) {
            Block put = new Block(next.numbers++, b.content);
            next.base.add(b.content);
            next.drafts.get(0).add(put);
            next.drafts.get(1).add(put);
        }
        next.preferred = now.preferred;
        next.accepted = now.accepted + 1;
        now = next;
        return text.size();
    }

    int accepted() {
        return now.accepted;
    }

    double similarity(int d) {
        List<Block> text = merge().blocks;
        int same = 0;
        int any = text.size();
        for (Block b : draft(d)) {
            same += text.contains(b) ? 1 : 0;
            any += find(text, b.number) < 0 ? 1 : 0;
        }
        return any == 0 ? 1.0 : (double) same / (double) any;
    }

    int append(int code) {
        argument(in(code, 33, 126));
        state(buffer.length() < 60);
        buffer += (char) code;
        return buffer.length();
    }

    int clearText() {
        int length = buffer.length();
        buffer = "";
        return length;
    }

    int firstError() {
        for (int length = 1; length <= buffer.length(); length++) {
            Matcher m = TEXT.matcher(buffer.substring(0, length));
            if (!m.matches() && !m.hitEnd()) {
                return length - 1;
            }
        }
        return buffer.length();
    }

    int run() {
        argument(TEXT.matcher(buffer).matches());
        save(now.copy());
        String[] commands = buffer.split(";");
        buffer = "";
        for (int done = 0; done < commands.length; done++) {
            try {
                execute(commands[done]);
            } catch (RuntimeException e) {
                return done;
            }
        }
        return commands.length;
    }

    private void execute(String command) {
        int d = command.charAt(0) - '0';
        String[] numbers = command.substring(2).split("[=>]");
        int first = Integer.parseInt(numbers[0]);
        int second = numbers.length > 1 ? Integer.parseInt(numbers[1]) : -1;
        switch (command.charAt(1)) {
            case 'e' -> plainEdit(d, first, second);
            case 'm' -> plainMove(d, first, second);
            case 'i' -> plainInsert(d, first, second);
            default -> plainRemove(d, first);
        }
    }

    int undo() {
        state(!saved.isEmpty());
        now = saved.remove(saved.size() - 1);
        return saved.size();
    }

    int savedStates() {
        return saved.size();
    }

    long digest() {
        Merged merged = merge();
        List<Integer> values = new ArrayList<>(List.of(baseSize(), mergedSize(), conflicts(), open(), accepted()));
        for (int d = 0; d < 2; d++) {
            values.add(size(d));
            for (Block b : draft(d)) {
                values.add(b.number);
                values.add(b.content);
            }
        }
        for (int b = 0; b < now.base.size(); b++) {
            values.add(change(0, b));
            values.add(change(1, b));
        }
        for (Block b : merged.blocks) {
            values.add(b.number);
            values.add(b.content);
        }
        for (Conflict c : merged.conflicts) {
            values.add(c.block);
            values.add(c.kind);
        }
        long hash = 8129;
        for (int v : values) {
            hash = 31 * hash + v;
        }
        return hash;
    }
}
