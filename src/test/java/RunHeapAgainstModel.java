import java.util.ArrayList;
import java.util.Arrays;
import java.util.Comparator;
import java.util.HashMap;
import java.util.List;
import java.util.Map;
import java.util.NoSuchElementException;
import java.util.Random;
import java.util.TreeMap;

/**
 * Runs of up to 512 calls, drawn from fixed seeds, on an object and on a plain model of the
 * document that keeps only the live blocks and finds all else anew at each call.
 */
public final class RunHeapAgainstModel {

    private static final int CALLS = 512;
    private static final int RUNS = 4000;
    private static final int NONE = -1;

    public static void main(String[] args) {
        int[] heard = new int[Kind.values().length];
        int[] accepted = new int[Kind.values().length];
        for (int seed = 1; seed <= RUNS; seed++) {
            String fault = new Run(seed, heard, accepted).play();
            if (fault != null) {
                System.out.println("seed " + seed + ": " + fault);
                System.exit(1);
            }
        }
        for (Kind kind : Kind.values()) {
            System.out.println(kind + ": " + heard[kind.ordinal()] + " calls, "
                    + accepted[kind.ordinal()] + " of them not refused");
            int refused = heard[kind.ordinal()] - accepted[kind.ordinal()];
            if (accepted[kind.ordinal()] == 0 || refused == 0) {
                System.out.println("these runs show too little");
                System.exit(1);
            }
        }
    }

    private enum Kind {
        GIVE, GIVE_ALIGNED, FREE, GROW, TRIM, PIN, GET, SET, SIZE_OF, LARGEST, COUNT, FREE_AT,
        BRANCH, ADVISE, WINDOW, MOVE, APPLY, MOVED
    }

    /** The ways in which a run draws its calls, so that heaps fill, break up and empty again. */
    private static final class Run {
        private final Random random;
        private final int words;
        private final int largestAsked;
        private final int[] weights = new int[Kind.values().length];
        private final int[] heard;
        private final int[] accepted;
        private final List<String> told = new ArrayList<>();
        private final List<Integer> known = new ArrayList<>();
        private final List<Kind> looks = new ArrayList<>();
        private final List<int[]> lookedAt = new ArrayList<>();

        Run(int seed, int[] heard, int[] accepted) {
            random = new Random(seed);
            this.heard = heard;
            this.accepted = accepted;
            int[] sizes = {10, 16, 30, 60, 100, 200, 400, 1000, 4096, 5000};
            words = sizes[random.nextInt(sizes.length)] + random.nextInt(5);
            int[] asked = {3, 8, 15, 30, 100};
            largestAsked = asked[random.nextInt(asked.length)];
            for (int i = 0; i < weights.length; i++) {
                weights[i] = 1 + random.nextInt(4);
            }
            weights[Kind.GIVE.ordinal()] += random.nextInt(20);
            weights[Kind.GIVE_ALIGNED.ordinal()] += random.nextInt(6);
            weights[Kind.FREE.ordinal()] += random.nextInt(12);
            weights[Kind.SET.ordinal()] += random.nextInt(8);
            weights[Kind.ADVISE.ordinal()] += random.nextInt(8);
            weights[Kind.APPLY.ordinal()] += random.nextInt(6);
        }

        String play() {
            RunHeap heap = new RunHeap(words);
            Model model = new Model(words);
            told.add("new RunHeap(" + words + ")");
            for (int i = 0; i < CALLS; i++) {
                Kind kind = looks.isEmpty() ? drawKind() : looks.get(0);
                int[] with = looks.isEmpty() ? drawArguments(kind, model) : lookedAt.get(0);
                if (!looks.isEmpty()) {
                    looks.remove(0);
                    lookedAt.remove(0);
                }
                String got = answerOf(() -> callHeap(heap, kind, with));
                String want = answerOf(() -> callModel(model, kind, with));
                told.add(kind + Arrays.toString(with) + " = " + got);
                heard[kind.ordinal()]++;
                boolean refused =
                        want.equals("0") || want.equals("-1") || want.startsWith("throws");
                accepted[kind.ordinal()] += refused ? 0 : 1;
                if (!got.equals(want)) {
                    return String.join("\n  ", told) + "\n  due is " + want;
                }
                if (kind == Kind.ADVISE && !refused && random.nextInt(3) != 0) {
                    lookAtAdvice(model);
                }
            }
            return null;
        }

        /** The next calls are to read the advice, and most times to follow it. */
        private void lookAtAdvice(Model model) {
            look(Kind.WINDOW);
            look(Kind.COUNT, 3);
            for (int i = 0; i <= model.moves.size() && i < 20; i++) {
                look(Kind.MOVE, i, 0);
                look(Kind.MOVE, i, 1);
            }
            if (random.nextInt(4) != 0) {
                look(Kind.APPLY);
                for (int i = 0; i < model.moves.size() && i < 20; i++) {
                    int[] move = model.moves.get(i);
                    look(Kind.MOVED, move[0]);
                    look(Kind.SIZE_OF, move[1]);
                    for (int word : new int[] {0, 1, model.live.get(move[0]).payload.length - 1}) {
                        look(Kind.GET, move[1], word);
                    }
                }
            }
        }

        private void look(Kind kind, int... with) {
            looks.add(kind);
            lookedAt.add(with);
        }

        private Kind drawKind() {
            int sum = 0;
            for (int weight : weights) {
                sum += weight;
            }
            int at = random.nextInt(sum);
            int i = 0;
            while (at >= weights[i]) {
                at -= weights[i];
                i++;
            }
            return Kind.values()[i];
        }

        private int odd() {
            int[] odd = {Integer.MIN_VALUE, -4, -1, 0, 1, 2, 3, 5, 4097, Integer.MAX_VALUE};
            return odd[random.nextInt(odd.length)];
        }

        private int drawWords() {
            return random.nextInt(20) == 0 ? odd() : 1 + random.nextInt(largestAsked);
        }

        private int drawOf(List<Integer> addresses) {
            int way = random.nextInt(30);
            if (way == 0) {
                return odd();
            }
            if (way == 1 || addresses.isEmpty()) {
                return 4 * (1 + random.nextInt(Math.max(1, words / 4)));
            }
            if (way == 2 && !known.isEmpty()) {
                return known.get(random.nextInt(known.size()));
            }
            int address = addresses.get(random.nextInt(addresses.size()));
            known.add(address);
            return address;
        }

        private int drawLive(Model model) {
            return drawOf(new ArrayList<>(model.live.keySet()));
        }

        private int drawFree(Model model) {
            List<Integer> addresses = new ArrayList<>();
            for (int[] block : model.freeBlocks()) {
                addresses.add(block[0]);
            }
            return drawOf(addresses);
        }

        private int drawIndex(Model model, int address) {
            if (random.nextInt(10) == 0 || !model.live.containsKey(address)) {
                return odd();
            }
            int payload = model.live.get(address).payload.length;
            int[] often = {0, 0, 1, 1, payload - 1, payload - 1, payload, random.nextInt(payload)};
            return often[random.nextInt(often.length)];
        }

        private int drawAdvised(Model model) {
            if (random.nextInt(3) == 0) {
                return drawWords();
            }
            // Just above the largest free block there are victims to find.
            return model.largest() + 1 + random.nextInt(random.nextInt(3) == 0 ? 60 : 12);
        }

        private int[] drawArguments(Kind kind, Model model) {
            int live = drawLive(model);
            switch (kind) {
                case GIVE:
                    return new int[] {drawWords()};
                case GIVE_ALIGNED:
                    int a = random.nextInt(8) == 0 ? random.nextInt(40) : 4 << random.nextInt(6);
                    return new int[] {drawWords(), random.nextInt(20) == 0 ? 1024 * a : a};
                case GROW:
                    return new int[] {live, drawWords() + random.nextInt(8)};
                case TRIM:
                    return new int[] {live, drawWords()};
                case PIN:
                    return new int[] {live, random.nextInt(5) == 0 ? 1 : 0};
                case GET:
                    return new int[] {live, drawIndex(model, live)};
                case SET:
                    return new int[] {live, drawIndex(model, live), random.nextInt()};
                case COUNT:
                    return new int[] {random.nextInt(7) - 1};
                case FREE_AT:
                    return new int[] {random.nextInt(model.freeBlocks().size() + 3) - 1};
                case BRANCH:
                    return new int[] {drawFree(model),
                        random.nextInt(12) == 0 ? odd() : random.nextInt(3)};
                case ADVISE:
                    return new int[] {drawAdvised(model)};
                case MOVE:
                    return new int[] {random.nextInt(model.moves.size() + 2) - 1,
                        random.nextInt(12) == 0 ? odd() : random.nextInt(2)};
                case MOVED:
                    List<Integer> from = new ArrayList<>(model.lastMoved.keySet());
                    return new int[] {from.isEmpty() || random.nextInt(3) == 0
                        ? live : from.get(random.nextInt(from.size()))};
                case LARGEST:
                case WINDOW:
                case APPLY:
                    return new int[0];
                default:
                    return new int[] {live};
            }
        }
    }

    private interface Call {
        int answer();
    }

    private static String answerOf(Call call) {
        try {
            return String.valueOf(call.answer());
        } catch (RuntimeException e) {
            return "throws." + e.getClass().getSimpleName();
        }
    }

    private static int callHeap(RunHeap heap, Kind kind, int[] with) {
        switch (kind) {
            case GIVE: return heap.give(with[0]);
            case GIVE_ALIGNED: return heap.giveAligned(with[0], with[1]);
            case FREE: return heap.free(with[0]) ? 1 : 0;
            case GROW: return heap.grow(with[0], with[1]) ? 1 : 0;
            case TRIM: return heap.trim(with[0], with[1]) ? 1 : 0;
            case PIN: return heap.pin(with[0], with[1] == 1) ? 1 : 0;
            case GET: return heap.get(with[0], with[1]);
            case SET: return heap.set(with[0], with[1], with[2]);
            case SIZE_OF: return heap.sizeOf(with[0]);
            case LARGEST: return heap.largest();
            case COUNT: return heap.count(with[0]);
            case FREE_AT: return heap.freeAt(with[0]);
            case BRANCH: return heap.branch(with[0], with[1]);
            case ADVISE: return heap.advise(with[0]);
            case WINDOW: return heap.window();
            case MOVE: return heap.move(with[0], with[1]);
            case APPLY: return heap.apply();
            default: return heap.moved(with[0]);
        }
    }

    private static int callModel(Model model, Kind kind, int[] with) {
        switch (kind) {
            case GIVE: return model.giveAligned(with[0], 4);
            case GIVE_ALIGNED: return model.giveAligned(with[0], with[1]);
            case FREE: return model.free(with[0]) ? 1 : 0;
            case GROW: return model.grow(with[0], with[1]) ? 1 : 0;
            case TRIM: return model.trim(with[0], with[1]) ? 1 : 0;
            case PIN: return model.pin(with[0], with[1] == 1) ? 1 : 0;
            case GET: return model.payload(with[0], with[1])[with[1]];
            case SET: return model.set(with[0], with[1], with[2]);
            case SIZE_OF: return model.sizeOf(with[0]);
            case LARGEST: return model.largest();
            case COUNT: return model.count(with[0]);
            case FREE_AT: return model.freeAt(with[0]);
            case BRANCH: return model.branch(with[0], with[1]);
            case ADVISE: return model.advise(with[0]);
            case WINDOW: return model.window;
            case MOVE: return model.move(with[0], with[1]);
            case APPLY: return model.apply();
            default: return model.lastMoved.getOrDefault(with[0], NONE);
        }
    }

    private static final class Live {
        int[] payload;
        boolean pinned;

        Live(int payloadWords) {
            payload = new int[payloadWords];
        }

        int size() {
            return payload.length + 1;
        }
    }

    /** Keeps the live blocks alone: a free block, an address and its words, lies between them. */
    private static final class Model {
        final TreeMap<Integer, Live> live = new TreeMap<>();
        List<int[]> moves = new ArrayList<>();
        Map<Integer, Integer> lastMoved = new HashMap<>();
        int window = NONE;
        private final int end;

        Model(int words) {
            int held = words < 16 ? 16 : words > 4096 ? 4096 : words;
            int last = 4;
            while (last - 1 + 4 <= held) {
                last += 4;
            }
            end = last;
        }

        List<int[]> freeBlocks() {
            List<int[]> found = new ArrayList<>();
            int at = 4;
            for (Map.Entry<Integer, Live> block : live.entrySet()) {
                if (block.getKey() > at) {
                    found.add(new int[] {at, block.getKey() - at});
                }
                at = block.getKey() + block.getValue().size();
            }
            if (end > at) {
                found.add(new int[] {at, end - at});
            }
            return found;
        }

        private static long sizeFor(int words) {
            long size = 4;
            while (size <= words) {
                size += words > 1000000 ? 1 << 20 : 4;
            }
            return size;
        }

        private void noAdvice() {
            moves = new ArrayList<>();
            window = NONE;
        }

        int giveAligned(int words, int a) {
            boolean known = false;
            for (int power = 4; power <= 1024; power *= 2) {
                known |= a == power;
            }
            if (!known || words < 1) {
                return 0;
            }
            for (int[] block : freeBlocks()) {
                for (int at = block[0]; at + sizeFor(words) <= block[0] + block[1]; at += 4) {
                    if (at % a == 0) {
                        live.put(at, new Live((int) sizeFor(words) - 1));
                        noAdvice();
                        return at;
                    }
                }
            }
            return 0;
        }

        boolean free(int address) {
            if (live.remove(address) == null) {
                return false;
            }
            noAdvice();
            return true;
        }

        boolean grow(int address, int words) {
            Live block = live.get(address);
            if (block == null || words < 1) {
                return false;
            }
            if (sizeFor(words) > block.size()) {
                Integer next = live.higherKey(address);
                if (address + sizeFor(words) > (next == null ? end : next)) {
                    return false;
                }
                block.payload = Arrays.copyOf(block.payload, (int) sizeFor(words) - 1);
            }
            noAdvice();
            return true;
        }

        boolean trim(int address, int words) {
            Live block = live.get(address);
            if (block == null || words < 1 || sizeFor(words) > block.size()) {
                return false;
            }
            block.payload = Arrays.copyOf(block.payload, (int) sizeFor(words) - 1);
            noAdvice();
            return true;
        }

        boolean pin(int address, boolean is) {
            Live block = live.get(address);
            if (block == null) {
                return false;
            }
            block.pinned = is;
            noAdvice();
            return true;
        }

        int[] payload(int address, int i) {
            Live block = live.get(address);
            if (block == null) {
                throw new NoSuchElementException();
            }
            if (i < 0 || i >= block.payload.length) {
                throw new IndexOutOfBoundsException();
            }
            return block.payload;
        }

        int set(int address, int i, int v) {
            int[] payload = payload(address, i);
            int before = payload[i];
            payload[i] = v;
            return before;
        }

        int sizeOf(int address) {
            return live.containsKey(address) ? live.get(address).payload.length : NONE;
        }

        int largest() {
            return freeBlocks().stream().mapToInt(block -> block[1]).max().orElse(0);
        }

        int count(int what) {
            switch (what) {
                case 0: return freeBlocks().size();
                case 1: return freeBlocks().stream().mapToInt(block -> block[1]).sum();
                case 2: return live.size();
                case 3: return moves.size();
                case 4: return depth(treeOf(freeBlocks()));
                default: return NONE;
            }
        }

        int freeAt(int k) {
            List<int[]> blocks = freeBlocks();
            return k < 0 || k >= blocks.size() ? NONE : blocks.get(k)[0];
        }

        private static Node treeOf(List<int[]> blocks) {
            if (blocks.isEmpty()) {
                return null;
            }
            int top = 0;
            for (int i = 1; i < blocks.size(); i++) {
                top = blocks.get(i)[1] > blocks.get(top)[1] ? i : top;
            }
            return new Node(blocks.get(top)[0], blocks.get(top)[1], treeOf(blocks.subList(0, top)),
                    treeOf(blocks.subList(top + 1, blocks.size())));
        }

        private static int depth(Node node) {
            return node == null ? 0 : 1 + Math.max(depth(node.left), depth(node.right));
        }

        int branch(int address, int side) {
            Node node = treeOf(freeBlocks());
            while (node != null && node.address != address) {
                node = address < node.address ? node.left : node.right;
            }
            if (node == null) {
                throw new NoSuchElementException();
            }
            if (side < 0 || side > 2) {
                throw new IllegalArgumentException();
            }
            Node below = side == 0 ? node.left : node.right;
            return side == 2 ? node.size : below == null ? 0 : below.address;
        }

        int advise(int words) {
            noAdvice();
            if (words < 1 || live.size() > 128) {
                return NONE;
            }
            TreeMap<Integer, Integer> blocks = new TreeMap<>();
            freeBlocks().forEach(block -> blocks.put(block[0], block[1]));
            live.forEach((address, block) -> blocks.put(address, block.size()));
            int fewest = Integer.MAX_VALUE;
            for (int low : blocks.keySet()) {
                int high = low;
                while (high < end && high - low < words) {
                    high += blocks.get(high);
                }
                List<int[]> placed = high - low < words ? null : placed(low, high);
                if (placed != null && placed.size() < fewest) {
                    fewest = placed.size();
                    moves = placed;
                    window = low;
                }
            }
            return window == NONE ? NONE : fewest;
        }

        /** The moves that clear the words from low to below high; null if they can't be. */
        private List<int[]> placed(int low, int high) {
            List<Map.Entry<Integer, Live>> victims =
                    new ArrayList<>(live.subMap(low, high).entrySet());
            victims.sort(Comparator.comparing((Map.Entry<Integer, Live> v) -> -v.getValue().size())
                    .thenComparing(Map.Entry::getKey));
            List<int[]> places = freeBlocks();
            places.removeIf(place -> place[0] >= low && place[0] < high);
            List<int[]> placed = new ArrayList<>();
            for (Map.Entry<Integer, Live> victim : victims) {
                int size = victim.getValue().size();
                int[] place = places.stream().filter(p -> p[1] >= size).findFirst().orElse(null);
                if (victim.getValue().pinned || place == null) {
                    return null;
                }
                placed.add(new int[] {victim.getKey(), place[0]});
                place[0] += size;
                place[1] -= size;
            }
            return placed;
        }

        int move(int i, int what) {
            if (i < 0 || i >= moves.size()) {
                throw new IndexOutOfBoundsException();
            }
            if (what < 0 || what > 1) {
                throw new IllegalArgumentException();
            }
            return moves.get(i)[what];
        }

        int apply() {
            if (window == NONE) {
                return NONE;
            }
            lastMoved = new HashMap<>();
            for (int[] move : moves) {
                live.put(move[1], live.remove(move[0]));
                lastMoved.put(move[0], move[1]);
            }
            noAdvice();
            return lastMoved.size();
        }
    }

    private static final class Node {
        final int address;
        final int size;
        final Node left;
        final Node right;

        Node(int address, int size, Node left, Node right) {
            this.address = address;
            this.size = size;
            this.left = left;
            this.right = right;
        }
    }
}
