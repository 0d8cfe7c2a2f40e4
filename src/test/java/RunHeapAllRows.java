import java.util.ArrayList;
import java.util.Arrays;
import java.util.Comparator;
import java.util.List;
import java.util.NoSuchElementException;
import java.util.function.Consumer;

/**
 * Every row that a small heap can have: each call that changes blocks with each argument that can
 * matter there, the tree, and advice for each number of words, against a picture that knows of
 * every group whose it is.
 */
public final class RunHeapAllRows extends SentenceTest {

    private static final int LEAST_GROUPS = 3;
    private static final int MOST_GROUPS_FOR_CALLS = 4;
    private static final int MOST_GROUPS_FOR_ADVICE = 7;
    private static final int ENOUGH_FAULTS = 10;

    private static int rows = 0;
    private static int calls = 0;

    /** With two numbers, rows of up to so many groups: 5 and 9 take a minute. */
    public static void main(String[] args) {
        boolean told = args.length == 2;
        int forCalls = told ? Integer.parseInt(args[0]) : MOST_GROUPS_FOR_CALLS;
        int forAdvice = told ? Integer.parseInt(args[1]) : MOST_GROUPS_FOR_ADVICE;
        sentence("the answers and state changes described above",
                () -> eachRow(forCalls, RunHeapAllRows::eachCall));
        sentence("THE TREE of the free blocks", () -> eachRow(forAdvice, RunHeapAllRows::eachTree));
        sentence("ADVICE for w words", () -> eachRow(forAdvice, RunHeapAllRows::eachAdvice));
        System.out.println(calls + " calls on " + rows + " rows");
        end();
    }

    private static void eachRow(int mostGroups, Consumer<String> test) {
        for (int groups = LEAST_GROUPS; groups <= mostGroups; groups++) {
            eachRow(groups, "", false, test);
        }
    }

    /** Two free blocks side by side are one, which has its own turn. */
    private static void eachRow(int left, String before, boolean free, Consumer<String> test) {
        if (faults() >= ENOUGH_FAULTS) {
            return;
        }
        if (left == 0) {
            rows++;
            test.accept(before.trim());
            return;
        }
        for (int groups = 1; groups <= left; groups++) {
            String block = 4 * groups + " ";
            eachRow(left - groups, before + block, false, test);
            eachRow(left - groups, before + "!" + block, false, test);
            if (!free) {
                eachRow(left - groups, before + "-" + block, true, test);
            }
        }
    }

    /** The tree is the same with pins as without. */
    private static void eachTree(String blocks) {
        if (!blocks.contains("!")) {
            calls++;
            due(blocks, toldTree(new Real(rowOf(blocks))), toldTree(new Picture(blocks)));
        }
    }

    private static void eachAdvice(String blocks) {
        calls++;
        int end = endOf(blocks);
        due(blocks, toldAdvice(new Real(rowOf(blocks)), end), toldAdvice(new Picture(blocks), end));
    }

    private static void eachCall(String blocks) {
        int end = endOf(blocks);
        for (int w = 0; w <= end; w++) {
            int words = w;
            dueAlike(blocks, "give(" + w + ")", h -> h.give(words));
            for (int a = 2; a <= 32; a *= 2) {
                int of = a;
                dueAlike(blocks, "giveAligned(" + w + ", " + a + ")",
                        h -> h.giveAligned(words, of));
            }
            dueAlike(blocks, "apply() for " + w, h -> 1000 * h.advise(words) + h.apply());
        }
        for (int at = 2; at <= end + 4; at += 2) {
            eachCallAt(blocks, at, end);
        }
    }

    private static void eachCallAt(String blocks, int at, int end) {
        dueAlike(blocks, "free(" + at + ")", h -> h.free(at) ? 1 : 0);
        dueAlike(blocks, "pin(" + at + ", true)", h -> h.pin(at, true) ? 1 : 0);
        dueAlike(blocks, "pin(" + at + ", false)", h -> h.pin(at, false) ? 1 : 0);
        for (int w = 0; w <= end; w++) {
            int words = w;
            dueAlike(blocks, "grow(" + at + ", " + w + ")", h -> h.grow(at, words) ? 1 : 0);
            dueAlike(blocks, "trim(" + at + ", " + w + ")", h -> h.trim(at, words) ? 1 : 0);
        }
    }

    /** What each answers, and all that shows of each afterwards, is the same. */
    private static void dueAlike(String blocks, String call, OnHeap made) {
        calls++;
        String got = toldAfter(new Real(usedRow(blocks)), made, endOf(blocks));
        due(blocks + ": " + call, got, toldAfter(new Picture(blocks), made, endOf(blocks)));
    }

    /** In no word of it, live or free, is a 0: what is to be 0 later must be made so. */
    private static RunHeap usedRow(String blocks) {
        RunHeap x = new RunHeap(endOf(blocks) - 1);
        fill(x, x.give(endOf(blocks) - 5));
        x.free(4);
        String[] each = blocks.split(" ");
        for (String block : each) {
            fill(x, x.give(wordsOf(block) - 1));
        }
        freeAndPin(x, each);
        return x;
    }

    private static String toldAfter(Heap h, OnHeap made, int end) {
        StringBuilder told = new StringBuilder();
        told.append(h.advise(4)).append(", then ").append(answerOf(() -> made.answer(h)));
        told.append("; window ").append(h.window()).append(", moves ").append(h.count(3));
        told.append("; counts");
        for (int what = -1; what <= 5; what++) {
            told.append(' ').append(h.count(what));
        }
        told.append("; largest ").append(h.largest()).append("; free");
        for (int k = -1; k <= h.count(0); k++) {
            told.append(' ').append(h.freeAt(k));
        }
        for (int address = 0; address <= end; address += 4) {
            tellBlock(told, h, address);
        }
        return told + toldAdvice(h, end);
    }

    private static void tellBlock(StringBuilder told, Heap h, int at) {
        int live = h.sizeOf(at);
        told.append("; at ").append(at).append(' ').append(live);
        told.append(" moved to ").append(h.moved(at)).append(':');
        for (int i = 0; i < live; i++) {
            told.append(' ').append(h.get(at, i));
        }
        String words = live == NONE ? answerOf(() -> h.branch(at, 2)) : "";
        told.append(' ').append(words);
        if (live == NONE && !words.startsWith("throws")) {
            told.append(' ').append(h.branch(at, 0)).append(' ').append(h.branch(at, 1));
        }
    }

    private static String toldTree(Heap h) {
        StringBuilder told = new StringBuilder("so deep: " + h.count(4));
        for (int k = 0; k < h.count(0); k++) {
            int at = h.freeAt(k);
            told.append("; at ").append(at).append(' ').append(h.branch(at, 2));
            told.append(' ').append(h.branch(at, 0)).append(' ').append(h.branch(at, 1));
        }
        return told.toString();
    }

    private static String toldAdvice(Heap h, int end) {
        StringBuilder told = new StringBuilder();
        for (int words = 0; words < end; words++) {
            told.append("; advice for ").append(words).append(": ").append(h.advise(words));
            told.append(" at ").append(h.window());
            for (int i = 0; i < h.count(3); i++) {
                told.append(' ').append(h.move(i, 0)).append('>').append(h.move(i, 1));
            }
        }
        return told.toString();
    }

    /** The address that a block directly behind the row would have. */
    private static int endOf(String blocks) {
        int end = 4;
        for (String block : blocks.split(" ")) {
            end += wordsOf(block);
        }
        return end;
    }

    private interface OnHeap {
        int answer(Heap h);
    }

    private interface Heap {
        int give(int words);

        int giveAligned(int words, int a);

        boolean free(int address);

        boolean grow(int address, int words);

        boolean trim(int address, int words);

        boolean pin(int address, boolean is);

        int get(int address, int i);

        int set(int address, int i, int v);

        int sizeOf(int address);

        int largest();

        int count(int what);

        int freeAt(int k);

        int branch(int address, int side);

        int advise(int words);

        int window();

        int move(int i, int what);

        int apply();

        int moved(int address);
    }

    private record Real(RunHeap x) implements Heap {
        public int give(int words) {
            return x.give(words);
        }

        public int giveAligned(int words, int a) {
            return x.giveAligned(words, a);
        }

        public boolean free(int address) {
            return x.free(address);
        }

        public boolean grow(int address, int words) {
            return x.grow(address, words);
        }

        public boolean trim(int address, int words) {
            return x.trim(address, words);
        }

        public boolean pin(int address, boolean is) {
            return x.pin(address, is);
        }

        public int get(int address, int i) {
            return x.get(address, i);
        }

        public int set(int address, int i, int v) {
            return x.set(address, i, v);
        }

        public int sizeOf(int address) {
            return x.sizeOf(address);
        }

        public int largest() {
            return x.largest();
        }

        public int count(int what) {
            return x.count(what);
        }

        public int freeAt(int k) {
            return x.freeAt(k);
        }

        public int branch(int address, int side) {
            return x.branch(address, side);
        }

        public int advise(int words) {
            return x.advise(words);
        }

        public int window() {
            return x.window();
        }

        public int move(int i, int what) {
            return x.move(i, what);
        }

        public int apply() {
            return x.apply();
        }

        public int moved(int address) {
            return x.moved(address);
        }
    }

    private static final class Live {
        int[] payload;
        boolean pinned;
    }

    private record Block(int group, int groups, Live live) {
        int address() {
            return 4 + 4 * group;
        }
    }

    private record Move(Block victim, int group) {
    }

    private record Window(Block lowest, List<Move> moves) {
    }

    /** Of every group the live block that it belongs to, or null: no more is kept of the row. */
    private static final class Picture implements Heap {
        private final Live[] owner;
        private Window advised = null;
        private List<Move> applied = List.of();

        Picture(String blocks) {
            owner = new Live[(endOf(blocks) - 4) / 4];
            int group = 0;
            for (String block : blocks.split(" ")) {
                int groups = wordsOf(block) / 4;
                if (!block.startsWith("-")) {
                    Live live = new Live();
                    live.payload = marked(4 + 4 * group, 4 * groups - 1);
                    live.pinned = block.startsWith("!");
                    Arrays.fill(owner, group, group + groups, live);
                }
                group += groups;
            }
        }

        private static int[] marked(int address, int words) {
            int[] payload = new int[words];
            for (int i = 0; i < words; i++) {
                payload[i] = markOf(address, i);
            }
            return payload;
        }

        private List<Block> blocks() {
            List<Block> found = new ArrayList<>();
            int from = 0;
            for (int g = 1; g <= owner.length; g++) {
                if (g == owner.length || owner[g] != owner[from]) {
                    found.add(new Block(from, g - from, owner[from]));
                    from = g;
                }
            }
            return found;
        }

        private List<Block> freeBlocks() {
            return blocks().stream().filter(b -> b.live == null).toList();
        }

        private Block liveAt(int address) {
            return blocks().stream().filter(b -> b.live != null && b.address() == address)
                    .findFirst().orElse(null);
        }

        private boolean isFree(int from, int to) {
            for (int g = from; g < to; g++) {
                if (g >= owner.length || owner[g] != null) {
                    return false;
                }
            }
            return true;
        }

        private static int groupsFor(int words) {
            int groups = 1;
            while (4 * groups <= words) {
                groups++;
            }
            return groups;
        }

        private void resize(Block block, int groups) {
            Arrays.fill(owner, block.group, block.group + block.groups, null);
            Arrays.fill(owner, block.group, block.group + groups, block.live);
            block.live.payload = Arrays.copyOf(block.live.payload, 4 * groups - 1);
            advised = null;
        }

        public int give(int words) {
            return giveAligned(words, 4);
        }

        public int giveAligned(int words, int a) {
            if (words < 1 || a < 4) {
                return 0;
            }
            int groups = groupsFor(words);
            for (int g = 0; g < owner.length; g++) {
                if ((4 + 4 * g) % a == 0 && isFree(g, g + groups)) {
                    Live live = new Live();
                    live.payload = new int[0];
                    resize(new Block(g, groups, live), groups);
                    return 4 + 4 * g;
                }
            }
            return 0;
        }

        public boolean free(int address) {
            Block block = liveAt(address);
            if (block == null) {
                return false;
            }
            Arrays.fill(owner, block.group, block.group + block.groups, null);
            advised = null;
            return true;
        }

        public boolean grow(int address, int words) {
            Block block = liveAt(address);
            if (block == null || words < 1) {
                return false;
            }
            int end = block.group + block.groups;
            int groups = Math.max(groupsFor(words), block.groups);
            if (!isFree(end, block.group + groups)) {
                return false;
            }
            resize(block, groups);
            return true;
        }

        public boolean trim(int address, int words) {
            Block block = liveAt(address);
            if (block == null || words < 1 || groupsFor(words) > block.groups) {
                return false;
            }
            resize(block, groupsFor(words));
            return true;
        }

        public boolean pin(int address, boolean is) {
            Block block = liveAt(address);
            if (block == null) {
                return false;
            }
            block.live.pinned = is;
            advised = null;
            return true;
        }

        private int[] payload(int address, int i) {
            Block block = liveAt(address);
            if (block == null) {
                throw new NoSuchElementException();
            }
            if (i < 0 || i >= block.live.payload.length) {
                throw new IndexOutOfBoundsException();
            }
            return block.live.payload;
        }

        public int get(int address, int i) {
            return payload(address, i)[i];
        }

        public int set(int address, int i, int v) {
            int before = get(address, i);
            payload(address, i)[i] = v;
            return before;
        }

        public int sizeOf(int address) {
            Block block = liveAt(address);
            return block == null ? NONE : block.live.payload.length;
        }

        public int largest() {
            return freeBlocks().stream().mapToInt(b -> 4 * b.groups).max().orElse(0);
        }

        public int count(int what) {
            List<Block> free = freeBlocks();
            return switch (what) {
                case 0 -> free.size();
                case 1 -> free.stream().mapToInt(b -> 4 * b.groups).sum();
                case 2 -> blocks().size() - free.size();
                case 3 -> advised == null ? 0 : advised.moves.size();
                case 4 -> depth(free);
                default -> NONE;
            };
        }

        public int freeAt(int k) {
            List<Block> free = freeBlocks();
            return k < 0 || k >= free.size() ? NONE : free.get(k).address();
        }

        private static Block top(List<Block> tree) {
            return tree.stream().max(Comparator.comparingInt(Block::groups)
                    .thenComparingInt(b -> -b.group)).orElse(null);
        }

        private static List<Block> below(List<Block> tree, boolean left) {
            int at = tree.indexOf(top(tree));
            return left ? tree.subList(0, at) : tree.subList(at + 1, tree.size());
        }

        private static int depth(List<Block> tree) {
            return tree.isEmpty() ? 0
                    : 1 + Math.max(depth(below(tree, true)), depth(below(tree, false)));
        }

        public int branch(int address, int side) {
            List<Block> tree = freeBlocks();
            while (!tree.isEmpty() && top(tree).address() != address) {
                tree = below(tree, address < top(tree).address());
            }
            if (tree.isEmpty()) {
                throw new NoSuchElementException();
            }
            if (side < 0 || side > 2) {
                throw new IllegalArgumentException();
            }
            Block under = side == 2 ? null : top(below(tree, side == 0));
            return side == 2 ? 4 * top(tree).groups : under == null ? 0 : under.address();
        }

        public int advise(int words) {
            advised = null;
            List<Window> windows = new ArrayList<>();
            List<Block> blocks = blocks();
            for (int from = 0; words > 0 && from < blocks.size(); from++) {
                int to = from;
                int held = 0;
                while (to < blocks.size() && held < words) {
                    held += 4 * blocks.get(to).groups;
                    to++;
                }
                List<Move> moves = held < words ? null : placed(blocks.subList(from, to));
                if (moves != null) {
                    windows.add(new Window(blocks.get(from), moves));
                }
            }
            // The sort keeps equal ones in their order, and so the lowest comes first.
            windows.sort(Comparator.comparingInt(w -> w.moves.size()));
            advised = windows.isEmpty() ? null : windows.get(0);
            return advised == null ? NONE : advised.moves.size();
        }

        /** Takes the groups outside the window one after the other; null if they do not do. */
        private List<Move> placed(List<Block> window) {
            List<Block> victims = new ArrayList<>(window);
            victims.removeIf(b -> b.live == null);
            victims.sort(Comparator.comparingInt(b -> -b.groups));
            int[] taken = new int[owner.length];
            List<Move> moves = new ArrayList<>();
            for (Block victim : victims) {
                Block place = freeBlocks().stream().filter(b -> !window.contains(b)
                        && b.groups - taken[b.group] >= victim.groups).findFirst().orElse(null);
                if (victim.live.pinned || place == null) {
                    return null;
                }
                moves.add(new Move(victim, place.group + taken[place.group]));
                taken[place.group] += victim.groups;
            }
            return moves;
        }

        public int window() {
            return advised == null ? NONE : advised.lowest.address();
        }

        public int move(int i, int what) {
            Move move = advised.moves.get(i);
            return what == 0 ? move.victim.address() : 4 + 4 * move.group;
        }

        public int apply() {
            if (advised == null) {
                return NONE;
            }
            applied = advised.moves;
            advised = null;
            for (Move m : applied) {
                Arrays.fill(owner, m.victim.group, m.victim.group + m.victim.groups, null);
                Arrays.fill(owner, m.group, m.group + m.victim.groups, m.victim.live);
            }
            return applied.size();
        }

        public int moved(int address) {
            return applied.stream().filter(m -> m.victim.address() == address)
                    .mapToInt(m -> 4 + 4 * m.group).findFirst().orElse(NONE);
        }
    }
}
