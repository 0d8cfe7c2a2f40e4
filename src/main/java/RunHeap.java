import java.util.Arrays;
import java.util.NoSuchElementException;

/**
 * A heap of words whose free blocks form one tree, by addresses from left to right and by sizes
 * from the top down. It gives the lowest block that is large enough, grows blocks in place, takes
 * tails back, and says which blocks to move so that a long run comes free.
 */
public final class RunHeap {

    public static final int NONE = -1;

    private static final int LEAST_WORDS = 16;
    private static final int MOST_WORDS = 4096;
    private static final int WORDS_BEFORE_BLOCKS = 3;
    private static final int GROUP = 4;
    private static final int MOST_ALIGNMENT = 1024;
    private static final int MOST_LIVE = 128;

    private static final int FREE = 0;
    private static final int LIVE = 1;
    private static final int PINNED = 2;

    private final int[] memory;
    private final Row row;
    private final Tree tree;
    private final Adviser adviser;
    private final Moves applied;

    public RunHeap(int words) {
        int held = Math.max(LEAST_WORDS, Math.min(MOST_WORDS, words));
        int groups = (held - WORDS_BEFORE_BLOCKS) / GROUP;
        memory = new int[held];
        row = new Row(groups);
        tree = new Tree(row, groups);
        adviser = new Adviser(row, groups);
        applied = new Moves(Math.min(groups, MOST_LIVE));
    }

    public int give(int words) {
        return giveAtMultiple(words, GROUP);
    }

    public int giveAligned(int words, int a) {
        boolean powerOfTwo = (a & (a - 1)) == 0;
        if (a < GROUP || a > MOST_ALIGNMENT || !powerOfTwo) {
            return 0;
        }
        return giveAtMultiple(words, a);
    }

    public boolean free(int address) {
        int at = row.liveIndex(address);
        if (at == NONE) {
            return false;
        }
        row.release(at);
        adviser.drop();
        return true;
    }

    public boolean grow(int address, int words) {
        int at = row.liveIndex(address);
        if (at == NONE || words < 1) {
            return false;
        }
        int before = row.size[at];
        int wanted = sizeFor(words);
        if (wanted > before) {
            if (row.freeBehind(at) < wanted - before) {
                return false;
            }
            row.extend(at, wanted);
            clearPayload(address, before - 1, wanted - 1);
        }
        adviser.drop();
        return true;
    }

    public boolean trim(int address, int words) {
        int at = row.liveIndex(address);
        if (at == NONE || words < 1) {
            return false;
        }
        int wanted = sizeFor(words);
        if (wanted > row.size[at]) {
            return false;
        }
        row.shorten(at, wanted);
        adviser.drop();
        return true;
    }

    public boolean pin(int address, boolean is) {
        int at = row.liveIndex(address);
        if (at == NONE) {
            return false;
        }
        row.kind[at] = is ? PINNED : LIVE;
        adviser.drop();
        return true;
    }

    public int get(int address, int i) throws NoSuchElementException, IndexOutOfBoundsException {
        return memory[payloadWord(address, i)];
    }

    public int set(int address, int i, int v)
            throws NoSuchElementException, IndexOutOfBoundsException {
        int word = payloadWord(address, i);
        int before = memory[word];
        memory[word] = v;
        return before;
    }

    public int sizeOf(int address) {
        int at = row.liveIndex(address);
        return at == NONE ? NONE : row.size[at] - 1;
    }

    public int largest() {
        return row.largestFree();
    }

    public int count(int what) {
        switch (what) {
            case 0:
                return row.freeBlocks();
            case 1:
                return row.freeWords();
            case 2:
                return row.liveBlocks();
            case 3:
                return adviser.best.made;
            case 4:
                return tree.depth();
            default:
                return NONE;
        }
    }

    public int freeAt(int k) {
        return row.freeAddress(k);
    }

    public int branch(int address, int side)
            throws NoSuchElementException, IllegalArgumentException {
        int at = row.freeIndex(address);
        if (at == NONE) {
            throw new NoSuchElementException("no free block has that address");
        }
        switch (side) {
            case 0:
                return tree.topToTheLeft(at);
            case 1:
                return tree.topToTheRight(at);
            case 2:
                return row.size[at];
            default:
                throw new IllegalArgumentException("a side is 0, 1 or 2");
        }
    }

    public int advise(int words) {
        // Asking ends the advice that was there, even if no other comes of it.
        adviser.drop();
        if (words < 1 || row.liveBlocks() > MOST_LIVE) {
            return NONE;
        }
        adviser.search(words);
        return adviser.given ? adviser.best.made : NONE;
    }

    public int window() {
        return adviser.given ? adviser.lowest : NONE;
    }

    public int move(int i, int what) throws IndexOutOfBoundsException, IllegalArgumentException {
        Moves moves = adviser.best;
        if (i < 0 || i >= moves.made) {
            throw new IndexOutOfBoundsException("there is no such move");
        }
        if (what != 0 && what != 1) {
            throw new IllegalArgumentException("what is 0 or 1");
        }
        return what == 0 ? moves.from[i] : moves.to[i];
    }

    public int apply() {
        if (!adviser.given) {
            return NONE;
        }
        applied.takeOver(adviser.best);
        adviser.drop();
        for (int i = 0; i < applied.made; i++) {
            copyBlock(applied.from[i], applied.to[i]);
        }
        // Only now: an old place that comes free may join a block that a later move goes into.
        for (int i = 0; i < applied.made; i++) {
            leaveBlock(applied.from[i]);
        }
        return applied.made;
    }

    public int moved(int address) {
        return applied.placeOf(address);
    }

    /** The words of a block for so many; more than any row has where the sum would overflow. */
    private static int sizeFor(int words) {
        return (Math.min(words, MOST_WORDS) / GROUP + 1) * GROUP;
    }

    private static int nextMultiple(int address, int a) {
        return (address + a - 1) / a * a;
    }

    private int giveAtMultiple(int words, int a) {
        if (words < 1) {
            return 0;
        }
        int size = sizeFor(words);
        for (int i = 0; i < row.blocks; i++) {
            int address = nextMultiple(row.address[i], a);
            if (row.kind[i] == FREE && address + size <= row.end(i)) {
                row.carve(i, address, size);
                clearPayload(address, 0, size - 1);
                adviser.drop();
                return address;
            }
        }
        return 0;
    }

    private void clearPayload(int address, int from, int to) {
        Arrays.fill(memory, address + from, address + to, 0);
    }

    private int payloadWord(int address, int i) {
        int at = row.liveIndex(address);
        if (at == NONE) {
            throw new NoSuchElementException("no live block has that address");
        }
        if (i < 0 || i >= row.size[at] - 1) {
            throw new IndexOutOfBoundsException("the payload has no such word");
        }
        return address + i;
    }

    private void copyBlock(int from, int to) {
        int at = row.liveIndex(from);
        int into = row.freeIndex(to);
        if (at != NONE && into != NONE) {
            int size = row.size[at];
            row.carve(into, to, size);
            System.arraycopy(memory, from, memory, to, size - 1);
        }
    }

    private void leaveBlock(int address) {
        int at = row.liveIndex(address);
        if (at != NONE) {
            row.release(at);
        }
    }

    /** The blocks by their addresses, without a gap and with no two free ones side by side. */
    private static final class Row {
        final int[] address;
        final int[] size;
        final int[] kind;
        int blocks;

        Row(int groups) {
            address = new int[groups];
            size = new int[groups];
            kind = new int[groups];
            address[0] = WORDS_BEFORE_BLOCKS + 1;
            size[0] = groups * GROUP;
            kind[0] = FREE;
            blocks = 1;
        }

        /** The address that a block directly behind this one has. */
        int end(int at) {
            return address[at] + size[at];
        }

        int liveIndex(int wanted) {
            int at = indexOf(wanted);
            return at != NONE && kind[at] != FREE ? at : NONE;
        }

        int freeIndex(int wanted) {
            int at = indexOf(wanted);
            return at != NONE && kind[at] == FREE ? at : NONE;
        }

        private int indexOf(int wanted) {
            for (int i = 0; i < blocks; i++) {
                if (address[i] == wanted) {
                    return i;
                }
            }
            return NONE;
        }

        int freeBlocks() {
            int found = 0;
            for (int i = 0; i < blocks; i++) {
                found += kind[i] == FREE ? 1 : 0;
            }
            return found;
        }

        int liveBlocks() {
            return blocks - freeBlocks();
        }

        int freeWords() {
            int sum = 0;
            for (int i = 0; i < blocks; i++) {
                sum += kind[i] == FREE ? size[i] : 0;
            }
            return sum;
        }

        int largestFree() {
            int most = 0;
            for (int i = 0; i < blocks; i++) {
                most = kind[i] == FREE ? Math.max(most, size[i]) : most;
            }
            return most;
        }

        int freeAddress(int k) {
            int passed = 0;
            for (int i = 0; i < blocks; i++) {
                if (kind[i] == FREE) {
                    if (passed == k) {
                        return address[i];
                    }
                    passed++;
                }
            }
            return NONE;
        }

        /** How many words the free block directly behind has; 0 if there is none. */
        int freeBehind(int at) {
            return isFree(at + 1) ? size[at + 1] : 0;
        }

        /** Makes a live block of the stretch inside a free one; what lies around it stays free. */
        void carve(int at, int from, int words) {
            int lead = from - address[at];
            int taken = at;
            if (lead > 0) {
                split(at, lead);
                taken = at + 1;
            }
            split(taken, words);
            kind[taken] = LIVE;
        }

        void release(int at) {
            kind[at] = FREE;
            if (isFree(at + 1)) {
                join(at);
            }
            if (isFree(at - 1)) {
                join(at - 1);
            }
        }

        /** The free block behind must have the words that are missing. */
        void extend(int at, int words) {
            split(at + 1, words - size[at]);
            join(at);
        }

        void shorten(int at, int words) {
            if (words < size[at]) {
                split(at, words);
                release(at + 1);
            }
        }

        private boolean isFree(int at) {
            return at >= 0 && at < blocks && kind[at] == FREE;
        }

        /** Leaves a block so many words; the rest, if any, is a block of its own behind it. */
        private void split(int at, int words) {
            int rest = size[at] - words;
            if (rest <= 0) {
                return;
            }
            shift(at + 1, at + 2);
            address[at + 1] = address[at] + words;
            size[at + 1] = rest;
            kind[at + 1] = kind[at];
            size[at] = words;
        }

        private void join(int at) {
            size[at] += size[at + 1];
            shift(at + 2, at + 1);
        }

        private void shift(int from, int to) {
            int behind = blocks - from;
            System.arraycopy(address, from, address, to, behind);
            System.arraycopy(size, from, size, to, behind);
            System.arraycopy(kind, from, kind, to, behind);
            blocks += to - from;
        }
    }

    /** The tree of the free blocks. The row alone tells its shape, so none of it is kept. */
    private static final class Tree {
        private final Row row;
        private final int[] spineSize;
        private final int[] spineDepth;

        Tree(Row row, int groups) {
            this.row = row;
            spineSize = new int[groups];
            spineDepth = new int[groups];
        }

        /**
         * Goes over the free blocks from left to right and keeps the spine from the top down its
         * right side: each one's size, and how deep the tree to its left is.
         */
        int depth() {
            int spine = 0;
            for (int i = 0; i < row.blocks; i++) {
                if (row.kind[i] == FREE) {
                    int kept = spine;
                    while (kept > 0 && spineSize[kept - 1] < row.size[i]) {
                        kept--;
                    }
                    spineDepth[kept] = depthOfSpine(kept, spine);
                    spineSize[kept] = row.size[i];
                    spine = kept + 1;
                }
            }
            return depthOfSpine(0, spine);
        }

        private int depthOfSpine(int from, int to) {
            int deep = 0;
            for (int i = to - 1; i >= from; i--) {
                deep = 1 + Math.max(deep, spineDepth[i]);
            }
            return deep;
        }

        /** A block that lies lower and is as large stands above, so the left side ends there. */
        int topToTheLeft(int at) {
            int top = 0;
            int most = 0;
            for (int i = at - 1; i >= 0; i--) {
                if (row.kind[i] == FREE) {
                    if (row.size[i] >= row.size[at]) {
                        break;
                    }
                    if (row.size[i] >= most) {
                        most = row.size[i];
                        top = row.address[i];
                    }
                }
            }
            return top;
        }

        /** A block that lies higher stands above only if it is larger. */
        int topToTheRight(int at) {
            int top = 0;
            int most = 0;
            for (int i = at + 1; i < row.blocks; i++) {
                if (row.kind[i] == FREE) {
                    if (row.size[i] > row.size[at]) {
                        break;
                    }
                    if (row.size[i] > most) {
                        most = row.size[i];
                        top = row.address[i];
                    }
                }
            }
            return top;
        }
    }

    /** Finds the window with the fewest victims that can all be placed, and keeps its moves. */
    private static final class Adviser {
        final Moves best;
        boolean given;
        int lowest;

        private final Row row;
        private final Moves trial;
        private final int[] movable;
        private int movables;
        private final int[] left;

        Adviser(Row row, int groups) {
            int most = Math.min(groups, MOST_LIVE);
            this.row = row;
            best = new Moves(most);
            trial = new Moves(most);
            movable = new int[most];
            left = new int[groups];
        }

        void drop() {
            given = false;
            best.made = 0;
        }

        void search(int words) {
            rankMovables();
            // Moves leave as many words free as there were, so no longer window can come free.
            int longest = row.freeWords();
            int end = 0;
            int held = 0;
            int victims = 0;
            for (int first = 0; first < row.blocks; first++) {
                end = Math.max(end, first);
                while (end < row.blocks && held < words && row.kind[end] != PINNED) {
                    held += row.size[end];
                    victims += row.kind[end] == LIVE ? 1 : 0;
                    end++;
                }
                boolean longEnough = held >= words && held <= longest;
                boolean fewer = !given || victims < best.made;
                if (longEnough && fewer && placeVictims(first, end)) {
                    given = true;
                    lowest = row.address[first];
                    best.takeOver(trial);
                }
                if (first < end) {
                    held -= row.size[first];
                    victims -= row.kind[first] == LIVE ? 1 : 0;
                }
            }
        }

        /** All windows place their victims in one order, so it is found once for all of them. */
        private void rankMovables() {
            movables = 0;
            for (int i = 0; i < row.blocks && movables < movable.length; i++) {
                if (row.kind[i] == LIVE) {
                    int at = movables;
                    while (at > 0 && row.size[movable[at - 1]] < row.size[i]) {
                        movable[at] = movable[at - 1];
                        at--;
                    }
                    movable[at] = i;
                    movables++;
                }
            }
        }

        private boolean placeVictims(int first, int end) {
            trial.made = 0;
            for (int i = 0; i < row.blocks; i++) {
                boolean outside = i < first || i >= end;
                left[i] = outside && row.kind[i] == FREE ? row.size[i] : 0;
            }
            int size = 0;
            int place = 0;
            for (int i = 0; i < movables; i++) {
                int victim = movable[i];
                if (victim >= first && victim < end) {
                    // What was too small for one victim is too small for the next of its size.
                    place = lowestPlace(row.size[victim] == size ? place : 0, row.size[victim]);
                    if (place == NONE) {
                        return false;
                    }
                    size = row.size[victim];
                    trial.put(row.address[victim], row.end(place) - left[place]);
                    left[place] -= size;
                }
            }
            return true;
        }

        private int lowestPlace(int from, int size) {
            for (int i = from; i < row.blocks; i++) {
                if (left[i] >= size) {
                    return i;
                }
            }
            return NONE;
        }
    }

    /** Old addresses with new ones, in the order in which they are made. */
    private static final class Moves {
        final int[] from;
        final int[] to;
        int made;

        Moves(int most) {
            from = new int[most];
            to = new int[most];
        }

        void put(int oldAddress, int newAddress) {
            if (made < from.length) {
                from[made] = oldAddress;
                to[made] = newAddress;
                made++;
            }
        }

        void takeOver(Moves other) {
            made = 0;
            for (int i = 0; i < other.made; i++) {
                put(other.from[i], other.to[i]);
            }
        }

        int placeOf(int oldAddress) {
            for (int i = 0; i < made; i++) {
                if (from[i] == oldAddress) {
                    return to[i];
                }
            }
            return NONE;
        }
    }
}
