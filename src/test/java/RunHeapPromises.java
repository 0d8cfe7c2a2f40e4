import java.util.NoSuchElementException;

/** Each promise of the document on ordinary inputs, on the edges that it names, on wrong inputs. */
public final class RunHeapPromises {

    private static final int[] ODD_ADDRESSES = {
        Integer.MIN_VALUE, -4, -1, 0, 1, 2, 3, 5, 6, 7, 9, 10, 1 << 20, Integer.MAX_VALUE
    };
    private static final int[] NO_ALIGNMENTS = {
        Integer.MIN_VALUE, -8, -4, -1, 0, 1, 2, 3, 5, 6, 12, 24, 1023, 1025, 2048, 1 << 30,
        Integer.MAX_VALUE
    };

    private static int wrong = 0;
    private static String promise = "";

    private interface Call {
        int answer();
    }

    private static void due(String call, int got, int want) {
        if (got != want) {
            wrong++;
            System.out.println(promise + ": " + call + " answered " + got + ", due is " + want);
        }
    }

    private static void due(String call, boolean got, boolean want) {
        due(call, got ? 1 : 0, want ? 1 : 0);
    }

    private static void dueThrow(String call, Class<?> want, Call made) {
        String got;
        try {
            got = "answered " + made.answer();
        } catch (RuntimeException e) {
            got = e.getClass() == want ? "" : "threw " + e.getClass().getName();
        }
        if (!got.isEmpty()) {
            wrong++;
            System.out.println(promise + ": " + call + " " + got + ", due is " + want.getName());
        }
    }

    public static void main(String[] args) {
        aNewObject();
        give();
        giveAligned();
        free();
        grow();
        growInto();
        trim();
        pin();
        get();
        set();
        sizeOf();
        largest();
        count();
        freeAt();
        branch();
        branchOfEqualSizes();
        advise();
        advisePlaces();
        adviseRefuses();
        adviceEnds();
        adviceStays();
        window();
        move();
        apply();
        applyJoins();
        moved();
        System.out.println(wrong == 0 ? "all promises hold" : wrong + " answers are not as due");
        if (wrong != 0) {
            System.exit(1);
        }
    }

    /** A heap whose blocks have these words each, from the first on, with the rest free. */
    private static RunHeap heapOf(int words, int... sizes) {
        RunHeap x = new RunHeap(words);
        int address = 4;
        for (int size : sizes) {
            due("give(" + (size - 1) + ")", x.give(size - 1), address);
            address += size;
        }
        return x;
    }

    private static void freeAll(RunHeap x, int... addresses) {
        for (int address : addresses) {
            due("free(" + address + ")", x.free(address), true);
        }
    }

    private static void pinAll(RunHeap x, int... addresses) {
        for (int address : addresses) {
            due("pin(" + address + ", true)", x.pin(address, true), true);
        }
    }

    private static void dueFree(RunHeap x, int... addressesAndSizes) {
        int blocks = addressesAndSizes.length / 2;
        due("count(0)", x.count(0), blocks);
        for (int k = 0; k < blocks; k++) {
            int address = addressesAndSizes[2 * k];
            due("freeAt(" + k + ")", x.freeAt(k), address);
            due("branch(" + address + ", 2)", x.branch(address, 2), addressesAndSizes[2 * k + 1]);
        }
        due("freeAt(" + blocks + ")", x.freeAt(blocks), RunHeap.NONE);
    }

    private static void dueMoves(RunHeap x, int... fromAndTo) {
        int moves = fromAndTo.length / 2;
        due("count(3)", x.count(3), moves);
        for (int i = 0; i < moves; i++) {
            due("move(" + i + ", 0)", x.move(i, 0), fromAndTo[2 * i]);
            due("move(" + i + ", 1)", x.move(i, 1), fromAndTo[2 * i + 1]);
        }
        dueThrow("move(" + moves + ", 0)", IndexOutOfBoundsException.class, () -> x.move(moves, 0));
    }

    private static void dueNoAdvice(String after, RunHeap x) {
        due("window() after " + after, x.window(), RunHeap.NONE);
        due("count(3) after " + after, x.count(3), 0);
        dueThrow("move(0, 0) after " + after, IndexOutOfBoundsException.class, () -> x.move(0, 0));
    }

    private static void aNewObject() {
        promise = "promise 1";
        int[] asked = {
            Integer.MIN_VALUE, -1, 0, 15, 16, 17, 18, 19, 22, 23, 40, 4094, 4095, 4096, 4097,
            Integer.MAX_VALUE
        };
        int[] words = {12, 12, 12, 12, 12, 12, 12, 16, 16, 20, 36, 4088, 4092, 4092, 4092, 4092};
        for (int i = 0; i < asked.length; i++) {
            RunHeap x = new RunHeap(asked[i]);
            due("largest() of " + asked[i], x.largest(), words[i]);
            due("count(1) of " + asked[i], x.count(1), words[i]);
            due("count(2) of " + asked[i], x.count(2), 0);
            dueFree(x, 4, words[i]);
            dueNoAdvice("making it", x);
            due("apply()", x.apply(), RunHeap.NONE);
            due("moved(4)", x.moved(4), RunHeap.NONE);
        }
        due("NONE", RunHeap.NONE, -1);
    }

    private static void give() {
        promise = "promise 2";
        RunHeap x = new RunHeap(100);
        due("give(0)", x.give(0), 0);
        due("give(-1)", x.give(-1), 0);
        due("give(least)", x.give(Integer.MIN_VALUE), 0);
        due("give(most)", x.give(Integer.MAX_VALUE), 0);
        due("give(most - 3)", x.give(Integer.MAX_VALUE - 3), 0);
        due("give(96)", x.give(96), 0);
        due("count(2)", x.count(2), 0);
        due("give(1)", x.give(1), 4);
        due("give(3)", x.give(3), 8);
        due("give(4)", x.give(4), 12);
        due("give(7)", x.give(7), 20);
        due("give(8)", x.give(8), 28);
        dueFree(x, 40, 60);
        freeAll(x, 4, 12, 28);
        due("give(5) in the lowest that is large enough", x.give(5), 12);
        due("give(3)", x.give(3), 4);
        due("give(5) leaves the rest", x.give(5), 28);
        dueFree(x, 36, 64);
        due("give(64)", x.give(64), 0);
        due("give(63)", x.give(63), 36);
        due("give(1) in a full heap", x.give(1), 0);
        RunHeap all = new RunHeap(4096);
        due("give(4092)", all.give(4092), 0);
        due("give(4091)", all.give(4091), 4);
        due("count(0)", all.count(0), 0);
        givesZeros();
    }

    private static void givesZeros() {
        RunHeap x = new RunHeap(40);
        due("give(35)", x.give(35), 4);
        for (int i = 0; i < 35; i++) {
            due("set", x.set(4, i, 1000 + i), 0);
        }
        freeAll(x, 4);
        due("give(11)", x.give(11), 4);
        due("give(20)", x.give(20), 16);
        for (int i = 0; i < 11; i++) {
            due("get(4, " + i + ")", x.get(4, i), 0);
        }
        for (int i = 0; i < 23; i++) {
            due("get(16, " + i + ")", x.get(16, i), 0);
        }
    }

    private static void giveAligned() {
        promise = "promise 3";
        for (int a : NO_ALIGNMENTS) {
            due("giveAligned(3, " + a + ")", new RunHeap(4096).giveAligned(3, a), 0);
        }
        for (int a = 4; a <= 1024; a *= 2) {
            RunHeap x = new RunHeap(4096);
            due("giveAligned(0, " + a + ")", x.giveAligned(0, a), 0);
            due("giveAligned(-1, " + a + ")", x.giveAligned(-1, a), 0);
            due("giveAligned(most, " + a + ")", x.giveAligned(Integer.MAX_VALUE, a), 0);
            due("giveAligned(5, " + a + ")", x.giveAligned(5, a), a);
            due("sizeOf(" + a + ")", x.sizeOf(a), 7);
            int next = a >= 8 ? 2 * a : 12;
            due("giveAligned(1, " + a + ") again", x.giveAligned(1, a), next);
        }
        RunHeap x = new RunHeap(60);
        due("giveAligned(3, 16)", x.giveAligned(3, 16), 16);
        dueFree(x, 4, 12, 20, 40);
        due("giveAligned(11, 4)", x.giveAligned(11, 4), 4);
        due("giveAligned(28, 32), too long for what is behind", x.giveAligned(28, 32), 0);
        due("giveAligned(27, 32), up to the end", x.giveAligned(27, 32), 32);
        dueFree(x, 20, 12);
        due("giveAligned(3, 32)", x.giveAligned(3, 32), 0);
        due("giveAligned(8, 8)", x.giveAligned(8, 8), 0);
        due("giveAligned(7, 8)", x.giveAligned(7, 8), 24);
        dueFree(x, 20, 4);
        due("set", x.set(24, 6, 9), 0);
        freeAll(x, 24);
        due("giveAligned(7, 8)", x.giveAligned(7, 8), 24);
        due("get(24, 6)", x.get(24, 6), 0);
    }

    private static void free() {
        promise = "promise 4";
        RunHeap x = heapOf(60, 4, 8, 4, 12, 8);
        for (int address : ODD_ADDRESSES) {
            due("free(" + address + ")", x.free(address), false);
        }
        due("free(12), inside a block", x.free(12), false);
        due("free(40), a free block's", x.free(40), false);
        due("count(2)", x.count(2), 5);
        freeAll(x, 8);
        dueFree(x, 8, 8, 40, 20);
        due("free(8) again", x.free(8), false);
        freeAll(x, 20);
        dueFree(x, 8, 8, 20, 12, 40, 20);
        freeAll(x, 16);
        dueFree(x, 8, 24, 40, 20);
        due("free(16) again", x.free(16), false);
        freeAll(x, 4);
        dueFree(x, 4, 28, 40, 20);
        freeAll(x, 32);
        dueFree(x, 4, 56);
        RunHeap pinned = heapOf(31, 8, 8, 8);
        pinAll(pinned, 4, 12, 20);
        freeAll(pinned, 12);
        dueFree(pinned, 12, 8, 28, 4);
        due("give(3)", pinned.give(3), 12);
        due("advise(8), the one given is not pinned", pinned.advise(8), 1);
        dueMoves(pinned, 12, 28);
    }

    private static void grow() {
        promise = "promise 5";
        RunHeap x = heapOf(60, 8, 4, 8, 4);
        freeAll(x, 12, 16);
        dueFree(x, 12, 12, 28, 32);
        for (int address : ODD_ADDRESSES) {
            due("grow(" + address + ", 1)", x.grow(address, 1), false);
        }
        due("grow(12, 1), a free block", x.grow(12, 1), false);
        due("grow(4, 0)", x.grow(4, 0), false);
        due("grow(4, -1)", x.grow(4, -1), false);
        due("grow(4, least)", x.grow(4, Integer.MIN_VALUE), false);
        due("grow(4, most)", x.grow(4, Integer.MAX_VALUE), false);
        due("grow(4, 20)", x.grow(4, 20), false);
        due("sizeOf(4)", x.sizeOf(4), 7);
        due("grow(4, 1)", x.grow(4, 1), true);
        due("grow(4, 7)", x.grow(4, 7), true);
        due("sizeOf(4)", x.sizeOf(4), 7);
        due("grow(4, 8)", x.grow(4, 8), true);
        due("sizeOf(4)", x.sizeOf(4), 11);
        dueFree(x, 16, 8, 28, 32);
        due("grow(4, 19)", x.grow(4, 19), true);
        due("sizeOf(4)", x.sizeOf(4), 19);
        dueFree(x, 28, 32);
        due("grow(4, 20), a live block behind", x.grow(4, 20), false);
        due("grow(24, 36)", x.grow(24, 36), false);
        due("grow(24, 35)", x.grow(24, 35), true);
        dueFree(x);
        due("grow(24, 36), the last", x.grow(24, 36), false);
        due("count(2)", x.count(2), 2);
    }

    private static void growInto() {
        promise = "promise 5";
        RunHeap x = heapOf(60, 4, 16, 4);
        for (int i = 0; i < 15; i++) {
            due("set", x.set(8, i, 100 + i), 0);
        }
        for (int i = 0; i < 3; i++) {
            due("set", x.set(4, i, 50 + i), 0);
        }
        freeAll(x, 8);
        pinAll(x, 4);
        due("grow(4, 10)", x.grow(4, 10), true);
        for (int i = 0; i < 11; i++) {
            due("get(4, " + i + ")", x.get(4, i), i < 3 ? 50 + i : 0);
        }
        dueFree(x, 16, 8, 28, 32);
        due("give(19)", x.give(19), 28);
        pinAll(x, 24, 28);
        due("advise(20), still pinned", x.advise(20), RunHeap.NONE);
        due("pin(4, false)", x.pin(4, false), true);
        due("advise(20)", x.advise(20), 1);
        dueMoves(x, 4, 48);
        growOverOldWords();
    }

    private static void growOverOldWords() {
        RunHeap x = heapOf(39, 36);
        for (int i = 0; i < 35; i++) {
            due("set", x.set(4, i, 100 + i), 0);
        }
        due("trim(4, 3)", x.trim(4, 3), true);
        due("grow(4, 11)", x.grow(4, 11), true);
        due("grow(4, 35)", x.grow(4, 35), true);
        for (int i = 0; i < 35; i++) {
            due("get(4, " + i + ")", x.get(4, i), i < 3 ? 100 + i : 0);
        }
    }

    private static void trim() {
        promise = "promise 6";
        RunHeap x = heapOf(60, 4, 16, 4);
        for (int address : ODD_ADDRESSES) {
            due("trim(" + address + ", 1)", x.trim(address, 1), false);
        }
        due("trim(28, 1), a free block", x.trim(28, 1), false);
        due("trim(8, 0)", x.trim(8, 0), false);
        due("trim(8, -1)", x.trim(8, -1), false);
        due("trim(8, 16)", x.trim(8, 16), false);
        due("trim(8, most)", x.trim(8, Integer.MAX_VALUE), false);
        due("trim(8, least)", x.trim(8, Integer.MIN_VALUE), false);
        due("set(8, 4, 3)", x.set(8, 4, 3), 0);
        due("trim(8, 15)", x.trim(8, 15), true);
        due("trim(8, 12)", x.trim(8, 12), true);
        due("sizeOf(8)", x.sizeOf(8), 15);
        dueFree(x, 28, 32);
        due("trim(8, 11)", x.trim(8, 11), true);
        due("sizeOf(8)", x.sizeOf(8), 11);
        dueFree(x, 20, 4, 28, 32);
        due("trim(8, 5), joins what is free behind", x.trim(8, 5), true);
        dueFree(x, 16, 8, 28, 32);
        due("get(8, 4)", x.get(8, 4), 3);
        due("trim(8, 8)", x.trim(8, 8), false);
        pinAll(x, 8);
        due("trim(8, 1)", x.trim(8, 1), true);
        due("sizeOf(8)", x.sizeOf(8), 3);
        dueFree(x, 12, 12, 28, 32);
        due("give(27)", x.give(27), 28);
        pinAll(x, 24, 28);
        freeAll(x, 4);
        due("advise(16), still pinned", x.advise(16), RunHeap.NONE);
        due("pin(8, false)", x.pin(8, false), true);
        due("advise(16)", x.advise(16), 1);
        dueMoves(x, 8, 56);
    }

    private static void pin() {
        promise = "promise 7";
        RunHeap x = heapOf(60, 4, 4, 4);
        for (int address : ODD_ADDRESSES) {
            due("pin(" + address + ", true)", x.pin(address, true), false);
            due("pin(" + address + ", false)", x.pin(address, false), false);
        }
        due("pin(16, true), a free block", x.pin(16, true), false);
        freeAll(x, 4);
        due("pin(4, true), a free block", x.pin(4, true), false);
        due("advise(48)", x.advise(48), 1);
        due("window()", x.window(), 12);
        dueMoves(x, 12, 4);
        due("pin(12, true)", x.pin(12, true), true);
        due("advise(48)", x.advise(48), RunHeap.NONE);
        due("pin(12, true) again", x.pin(12, true), true);
        due("advise(48)", x.advise(48), RunHeap.NONE);
        due("pin(12, false)", x.pin(12, false), true);
        due("advise(48)", x.advise(48), 1);
        due("pin(12, false) again", x.pin(12, false), true);
        due("advise(48)", x.advise(48), 1);
        due("free(12), pinned or not", x.pin(12, true) && x.free(12), true);
        due("count(2)", x.count(2), 1);
    }

    private static void get() {
        promise = "promise 8";
        RunHeap x = heapOf(60, 4, 8, 4);
        freeAll(x, 4);
        due("set(8, 0, 11)", x.set(8, 0, 11), 0);
        due("set(8, 6, 17)", x.set(8, 6, 17), 0);
        due("get(8, 0)", x.get(8, 0), 11);
        due("get(8, 5)", x.get(8, 5), 0);
        due("get(8, 6)", x.get(8, 6), 17);
        for (int address : ODD_ADDRESSES) {
            dueThrow("get(" + address + ", 0)", NoSuchElementException.class,
                    () -> x.get(address, 0));
        }
        dueThrow("get(4, 0), free", NoSuchElementException.class, () -> x.get(4, 0));
        dueThrow("get(12, 0), inside", NoSuchElementException.class, () -> x.get(12, 0));
        dueThrow("get(12, -1)", NoSuchElementException.class, () -> x.get(12, -1));
        for (int i : new int[] {7, 8, -1, Integer.MIN_VALUE, Integer.MAX_VALUE}) {
            dueThrow("get(8, " + i + ")", IndexOutOfBoundsException.class, () -> x.get(8, i));
        }
        RunHeap whole = heapOf(19, 16);
        due("get, the last word of all", whole.get(4, 14), 0);
        dueThrow("get(4, 15)", IndexOutOfBoundsException.class, () -> whole.get(4, 15));
    }

    private static void set() {
        promise = "promise 9";
        RunHeap x = heapOf(60, 4, 8, 4);
        freeAll(x, 4);
        due("set(8, 3, 5)", x.set(8, 3, 5), 0);
        due("set(8, 3, -6)", x.set(8, 3, -6), 5);
        due("set(8, 3, most)", x.set(8, 3, Integer.MAX_VALUE), -6);
        due("set(8, 3, least)", x.set(8, 3, Integer.MIN_VALUE), Integer.MAX_VALUE);
        due("get(8, 3)", x.get(8, 3), Integer.MIN_VALUE);
        due("set(8, 6, 1)", x.set(8, 6, 1), 0);
        due("set(16, 0, 2)", x.set(16, 0, 2), 0);
        due("get(8, 6), its neighbour is not touched", x.get(8, 6), 1);
        for (int address : ODD_ADDRESSES) {
            dueThrow("set(" + address + ", 0, 1)", NoSuchElementException.class,
                    () -> x.set(address, 0, 1));
        }
        dueThrow("set(4, 0, 1), free", NoSuchElementException.class, () -> x.set(4, 0, 1));
        dueThrow("set(12, 9, 1), inside", NoSuchElementException.class, () -> x.set(12, 9, 1));
        for (int i : new int[] {7, 8, -1, Integer.MIN_VALUE, Integer.MAX_VALUE}) {
            dueThrow("set(8, " + i + ", 9)", IndexOutOfBoundsException.class, () -> x.set(8, i, 9));
        }
        due("get(16, 0), as it was", x.get(16, 0), 2);
        due("sizeOf(8)", x.sizeOf(8), 7);
        dueFree(x, 4, 4, 20, 40);
    }

    private static void sizeOf() {
        promise = "promise 10";
        RunHeap x = heapOf(60, 4, 8, 40);
        due("sizeOf(4)", x.sizeOf(4), 3);
        due("sizeOf(8)", x.sizeOf(8), 7);
        due("sizeOf(16)", x.sizeOf(16), 39);
        due("sizeOf(12), inside", x.sizeOf(12), RunHeap.NONE);
        due("sizeOf(56), free", x.sizeOf(56), RunHeap.NONE);
        for (int address : ODD_ADDRESSES) {
            due("sizeOf(" + address + ")", x.sizeOf(address), RunHeap.NONE);
        }
        freeAll(x, 4);
        due("sizeOf(4), freed", x.sizeOf(4), RunHeap.NONE);
    }

    private static void largest() {
        promise = "promise 11";
        RunHeap x = heapOf(60, 4, 12, 4, 16, 20);
        due("largest() in a full heap", x.largest(), 0);
        freeAll(x, 8);
        due("largest()", x.largest(), 12);
        freeAll(x, 24);
        due("largest()", x.largest(), 16);
        due("give(15)", x.give(15), 24);
        due("largest()", x.largest(), 12);
        freeAll(x, 20);
        due("largest() of two in one", x.largest(), 16);
        freeAll(x, 24);
        due("largest() of three in one", x.largest(), 32);
    }

    private static void count() {
        promise = "promise 12";
        RunHeap x = heapOf(60, 4, 12, 4, 16, 4);
        freeAll(x, 8, 24);
        due("count(0)", x.count(0), 3);
        due("count(1)", x.count(1), 44);
        due("count(2)", x.count(2), 3);
        due("count(3)", x.count(3), 0);
        due("count(4)", x.count(4), 2);
        pinAll(x, 4);
        due("count(2), a pinned one is live", x.count(2), 3);
        due("advise(36)", x.advise(36), 1);
        due("count(3)", x.count(3), 1);
        for (int what : new int[] {-1, 5, 6, Integer.MIN_VALUE, Integer.MAX_VALUE}) {
            due("count(" + what + ")", x.count(what), RunHeap.NONE);
        }
        due("count(3), asking changes nothing", x.count(3), 1);
        RunHeap full = heapOf(16, 12);
        due("count(0)", full.count(0), 0);
        due("count(1)", full.count(1), 0);
        due("count(4) without a tree", full.count(4), 0);
        due("count(4) of one", new RunHeap(16).count(4), 1);
        countDepth();
    }

    private static void countDepth() {
        RunHeap up = heapOf(120, 4, 4, 8, 4, 12, 4, 16, 4, 20, 40);
        freeAll(up, 4, 12, 24, 40, 60);
        due("count(4), each larger than the one before", up.count(4), 5);
        RunHeap down = heapOf(120, 20, 4, 16, 4, 12, 4, 8, 4, 4, 40);
        freeAll(down, 4, 28, 48, 64, 76);
        due("count(4), each smaller than the one before", down.count(4), 5);
        RunHeap even = heapOf(64, 8, 4, 12, 4, 8, 4, 20);
        freeAll(even, 4, 16, 32);
        due("count(4), the largest in the middle", even.count(4), 2);
        RunHeap zigzag = heapOf(72, 20, 4, 4, 4, 16, 4, 16);
        freeAll(zigzag, 4, 28, 36);
        due("count(4), right and then left", zigzag.count(4), 3);
    }

    private static void freeAt() {
        promise = "promise 13";
        RunHeap x = heapOf(60, 4, 4, 4, 4, 4);
        freeAll(x, 16, 8);
        due("freeAt(0)", x.freeAt(0), 8);
        due("freeAt(1)", x.freeAt(1), 16);
        due("freeAt(2)", x.freeAt(2), 24);
        for (int k : new int[] {3, 4, -1, Integer.MIN_VALUE, Integer.MAX_VALUE}) {
            due("freeAt(" + k + ")", x.freeAt(k), RunHeap.NONE);
        }
        due("freeAt(0) in a full heap", heapOf(16, 12).freeAt(0), RunHeap.NONE);
    }

    private static void dueBranches(RunHeap x, int address, int toLeft, int toRight) {
        due("branch(" + address + ", 0)", x.branch(address, 0), toLeft);
        due("branch(" + address + ", 1)", x.branch(address, 1), toRight);
    }

    private static void branch() {
        promise = "promise 14";
        // Free: 4 (4 words), 12 (12), 28 (8), 40 (20), 64 (4), 72 (16), 92 (8).
        RunHeap x = heapOf(104, 4, 4, 12, 4, 8, 4, 20, 4, 4, 4, 16, 4, 8, 4);
        freeAll(x, 4, 12, 28, 40, 64, 72, 92);
        dueBranches(x, 40, 12, 72);
        dueBranches(x, 12, 4, 28);
        dueBranches(x, 4, 0, 0);
        dueBranches(x, 28, 0, 0);
        dueBranches(x, 72, 64, 92);
        dueBranches(x, 64, 0, 0);
        dueBranches(x, 92, 0, 0);
        due("branch(72, 2)", x.branch(72, 2), 16);
        due("count(4)", x.count(4), 3);
        for (int address : ODD_ADDRESSES) {
            dueThrow("branch(" + address + ", 0)", NoSuchElementException.class,
                    () -> x.branch(address, 0));
        }
        dueThrow("branch(8, 0), live", NoSuchElementException.class, () -> x.branch(8, 0));
        dueThrow("branch(16, 2), inside", NoSuchElementException.class, () -> x.branch(16, 2));
        dueThrow("branch(8, 3)", NoSuchElementException.class, () -> x.branch(8, 3));
        for (int side : new int[] {-1, 3, Integer.MIN_VALUE, Integer.MAX_VALUE}) {
            dueThrow("branch(4, " + side + ")", IllegalArgumentException.class,
                    () -> x.branch(4, side));
        }
    }

    private static void branchOfEqualSizes() {
        // Free: 4 (8 words), 16 (4), 24 (8), 36 (4), 44 (4), 52 (8).
        RunHeap x = heapOf(64, 8, 4, 4, 4, 8, 4, 4, 4, 4, 4, 8, 4);
        freeAll(x, 4, 16, 24, 36, 44, 52);
        dueBranches(x, 4, 0, 24);
        dueBranches(x, 24, 16, 52);
        dueBranches(x, 16, 0, 0);
        dueBranches(x, 52, 36, 0);
        dueBranches(x, 36, 0, 44);
        dueBranches(x, 44, 0, 0);
        due("count(4)", x.count(4), 5);
    }

    private static void advise() {
        promise = "promise 15";
        RunHeap x = new RunHeap(40);
        due("advise(36), all is free", x.advise(36), 0);
        due("window()", x.window(), 4);
        due("advise(37)", x.advise(37), RunHeap.NONE);
        // Blocks: 4 live 8, 12 free 4, 16 live 4, 20 free 8, 28 live 8, 36 free 16.
        RunHeap y = heapOf(52, 8, 4, 4, 8, 8);
        freeAll(y, 12, 20);
        due("advise(1), the lowest", y.advise(1), 0);
        due("window()", y.window(), 12);
        due("advise(5)", y.advise(5), 0);
        due("window()", y.window(), 20);
        due("advise(16)", y.advise(16), 0);
        due("window()", y.window(), 36);
        due("advise(17)", y.advise(17), 1);
        due("window(), the victim goes into what lies lower", y.window(), 28);
        dueMoves(y, 28, 20);
        due("advise(24)", y.advise(24), 1);
        due("window()", y.window(), 28);
        due("advise(25), no window's victims have a place", y.advise(25), RunHeap.NONE);
        dueNoAdvice("advise(25)", y);
        adviseLowest();
    }

    private static void adviseLowest() {
        // Live and free blocks of 4 words each in turn, from 4 on, the last at 24.
        RunHeap x = heapOf(27, 4, 4, 4, 4, 4, 4);
        freeAll(x, 8, 16, 24);
        due("advise(8)", x.advise(8), 1);
        due("window(), the lowest of several", x.window(), 4);
        dueMoves(x, 4, 16);
        due("advise(12)", x.advise(12), 1);
        due("window(), the one from 4 on has two victims", x.window(), 8);
        dueMoves(x, 12, 24);
        pinAll(x, 4);
        due("advise(8)", x.advise(8), 1);
        due("window(), not with a pinned one", x.window(), 8);
        dueMoves(x, 12, 16);
        pinAll(x, 12);
        due("advise(8)", x.advise(8), 1);
        due("window()", x.window(), 16);
        dueMoves(x, 20, 8);
        pinAll(x, 20);
        due("advise(8), all pinned", x.advise(8), RunHeap.NONE);
        due("advise(4), all pinned", x.advise(4), 0);
    }

    /**
     * Live and not pinned: 4 (4 words), 8 (12), 20 (4), 24 (12), 36 (4). Free: 44 (8), 56 (28),
     * 88 (4), with a pinned block before and behind each.
     */
    private static RunHeap heapWithFiveToMove() {
        RunHeap x = heapOf(99, 4, 12, 4, 12, 4, 4, 8, 4, 28, 4, 4, 8);
        freeAll(x, 44, 56, 88);
        pinAll(x, 40, 52, 84, 92);
        return x;
    }

    private static void advisePlaces() {
        RunHeap x = heapWithFiveToMove();
        due("advise(36), the largest first, into the lowest", x.advise(36), 5);
        due("window()", x.window(), 4);
        dueMoves(x, 8, 56, 24, 68, 4, 44, 20, 48, 36, 80);
        due("advise(37), not over a pinned one", x.advise(37), RunHeap.NONE);
        due("advise(33), 32 from 8 on are too few", x.advise(33), 5);
        due("advise(32)", x.advise(32), 4);
        due("window(), the lower of two", x.window(), 4);
        dueMoves(x, 8, 56, 24, 68, 4, 44, 20, 48);
        due("advise(28)", x.advise(28), 0);
        due("window()", x.window(), 56);
        pinAll(x, 4);
        due("advise(32)", x.advise(32), 4);
        due("window()", x.window(), 8);
        dueMoves(x, 8, 56, 24, 68, 20, 44, 36, 48);
        RunHeap none = heapOf(64, 12, 20, 8, 20);
        freeAll(none, 36);
        pinAll(none, 44);
        due("advise(20), no place outside is large enough", none.advise(20), RunHeap.NONE);
        due("advise(8)", none.advise(8), 0);
        RunHeap parted = heapOf(39, 8, 4, 12, 4, 8);
        freeAll(parted, 4, 32);
        pinAll(parted, 12, 28);
        due("advise(12), places outside only together", parted.advise(12), RunHeap.NONE);
        dueNoAdvice("advise(12)", parted);
    }

    private static void adviseRefuses() {
        RunHeap x = heapOf(60, 8, 8, 8);
        for (int words : new int[] {0, -1, Integer.MIN_VALUE, Integer.MAX_VALUE, 4097, 57}) {
            due("advise(8)", x.advise(8), 0);
            due("advise(" + words + ")", x.advise(words), RunHeap.NONE);
            dueNoAdvice("advise(" + words + ")", x);
            due("apply()", x.apply(), RunHeap.NONE);
        }
        RunHeap many = new RunHeap(4096);
        for (int i = 0; i < 128; i++) {
            due("give(3)", many.give(3), 4 + 4 * i);
        }
        freeAll(many, 4, 12);
        due("give(3)", many.give(3), 4);
        due("give(3)", many.give(3), 12);
        due("advise(8) with 128 live blocks", many.advise(8), 0);
        due("window()", many.window(), 516);
        due("advise(4092)", many.advise(4092), RunHeap.NONE);
        due("advise(3580)", many.advise(3580), 0);
        due("advise(3581)", many.advise(3581), RunHeap.NONE);
        due("give(3)", many.give(3), 516);
        due("advise(8) with 129 live blocks", many.advise(8), RunHeap.NONE);
        dueNoAdvice("advise(8)", many);
        freeAll(many, 8);
        due("advise(8) with 128 live blocks", many.advise(8), 0);
        due("window()", many.window(), 520);
    }

    /** Two live blocks and a free one between, with advice for a move of the upper one. */
    private static RunHeap withAdvice() {
        RunHeap x = heapOf(60, 8, 4, 4, 4);
        freeAll(x, 12);
        due("advise(40)", x.advise(40), 1);
        due("window()", x.window(), 20);
        dueMoves(x, 20, 12);
        return x;
    }

    private static void adviceEnds() {
        promise = "how long advice is there";
        RunHeap x = withAdvice();
        due("give(1)", x.give(1), 12);
        dueNoAdvice("give", x);
        x = withAdvice();
        due("giveAligned(1, 4)", x.giveAligned(1, 4), 12);
        dueNoAdvice("giveAligned", x);
        x = withAdvice();
        due("free(4)", x.free(4), true);
        dueNoAdvice("free", x);
        x = withAdvice();
        due("grow(20, 4)", x.grow(20, 4), true);
        dueNoAdvice("grow", x);
        x = withAdvice();
        due("grow(20, 3)", x.grow(20, 3), true);
        dueNoAdvice("grow that changes nothing", x);
        x = withAdvice();
        due("trim(4, 3)", x.trim(4, 3), true);
        dueNoAdvice("trim", x);
        x = withAdvice();
        due("trim(4, 7)", x.trim(4, 7), true);
        dueNoAdvice("trim that changes nothing", x);
        x = withAdvice();
        due("pin(4, true)", x.pin(4, true), true);
        dueNoAdvice("pin", x);
        x = withAdvice();
        due("pin(4, false)", x.pin(4, false), true);
        dueNoAdvice("pin that changes nothing", x);
        x = withAdvice();
        due("advise(0)", x.advise(0), RunHeap.NONE);
        dueNoAdvice("advise(0)", x);
        x = withAdvice();
        due("apply()", x.apply(), 1);
        dueNoAdvice("apply", x);
        x = withAdvice();
        due("advise(4)", x.advise(4), 0);
        due("window()", x.window(), 12);
        dueMoves(x);
    }

    private static void adviceStays() {
        RunHeap x = withAdvice();
        due("give(0)", x.give(0), 0);
        due("give(60)", x.give(60), 0);
        due("giveAligned(1, 5)", x.giveAligned(1, 5), 0);
        due("giveAligned(1, 1024)", x.giveAligned(1, 1024), 0);
        due("free(12)", x.free(12), false);
        due("grow(4, 12)", x.grow(4, 12), false);
        due("grow(4, 0)", x.grow(4, 0), false);
        due("grow(12, 1)", x.grow(12, 1), false);
        due("trim(4, 8)", x.trim(4, 8), false);
        due("trim(4, 0)", x.trim(4, 0), false);
        due("trim(12, 1)", x.trim(12, 1), false);
        due("pin(12, true)", x.pin(12, true), false);
        due("set(20, 2, 5)", x.set(20, 2, 5), 0);
        due("get(20, 2)", x.get(20, 2), 5);
        due("moved(20)", x.moved(20), RunHeap.NONE);
        dueFree(x, 12, 4, 24, 36);
        due("window()", x.window(), 20);
        dueMoves(x, 20, 12);
        due("apply()", x.apply(), 1);
        due("get(12, 2), set after the advice", x.get(12, 2), 5);
    }

    private static void window() {
        promise = "promise 16";
        RunHeap x = heapOf(60, 4, 4, 8, 4);
        due("window()", x.window(), RunHeap.NONE);
        freeAll(x, 8);
        due("advise(4)", x.advise(4), 0);
        due("window(), without victims", x.window(), 8);
        due("window() again", x.window(), 8);
        due("apply()", x.apply(), 0);
        due("window()", x.window(), RunHeap.NONE);
        due("advise(60)", x.advise(60), RunHeap.NONE);
        due("window()", x.window(), RunHeap.NONE);
        due("advise(16)", x.advise(16), 0);
        due("window()", x.window(), 24);
    }

    private static void move() {
        promise = "promise 17";
        RunHeap x = heapOf(60, 4, 4, 8, 4);
        freeAll(x, 8);
        dueThrow("move(0, 0)", IndexOutOfBoundsException.class, () -> x.move(0, 0));
        dueThrow("move(0, 2)", IndexOutOfBoundsException.class, () -> x.move(0, 2));
        due("advise(40)", x.advise(40), 1);
        dueMoves(x, 20, 8);
        for (int i : new int[] {1, 2, -1, Integer.MIN_VALUE, Integer.MAX_VALUE}) {
            for (int what : new int[] {0, 1, 2, -1}) {
                dueThrow("move(" + i + ", " + what + ")", IndexOutOfBoundsException.class,
                        () -> x.move(i, what));
            }
        }
        for (int what : new int[] {2, 3, -1, Integer.MIN_VALUE, Integer.MAX_VALUE}) {
            dueThrow("move(0, " + what + ")", IllegalArgumentException.class,
                    () -> x.move(0, what));
        }
        due("advise(36)", x.advise(36), 0);
        dueThrow("move(0, 0)", IndexOutOfBoundsException.class, () -> x.move(0, 0));
    }

    private static void apply() {
        promise = "promise 18";
        int[] from = {8, 24, 4, 20, 36};
        int[] to = {56, 68, 44, 48, 80};
        int[] payload = {11, 11, 3, 3, 3};
        RunHeap x = heapWithFiveToMove();
        due("apply() without advice", x.apply(), RunHeap.NONE);
        due("set(40, 2, 9)", x.set(40, 2, 9), 0);
        for (int k = 0; k < from.length; k++) {
            for (int i = 0; i < payload[k]; i++) {
                due("set", x.set(from[k], i, 1000 * from[k] + i), 0);
            }
        }
        due("advise(36)", x.advise(36), 5);
        due("apply()", x.apply(), 5);
        dueNoAdvice("apply()", x);
        dueFree(x, 4, 36, 88, 4);
        due("count(2)", x.count(2), 9);
        for (int k = 0; k < from.length; k++) {
            due("sizeOf(" + from[k] + ")", x.sizeOf(from[k]), RunHeap.NONE);
            due("sizeOf(" + to[k] + ")", x.sizeOf(to[k]), payload[k]);
            for (int i = 0; i < payload[k]; i++) {
                due("get(" + to[k] + ", " + i + ")", x.get(to[k], i), 1000 * from[k] + i);
            }
        }
        due("get(40, 2), not moved", x.get(40, 2), 9);
        due("apply() again", x.apply(), RunHeap.NONE);
        due("advise(36)", x.advise(36), 0);
        due("apply() without victims", x.apply(), 0);
        dueNoAdvice("apply()", x);
        dueFree(x, 4, 36, 88, 4);
    }

    private static void applyJoins() {
        RunHeap x = heapOf(43, 16, 12, 8, 4);
        freeAll(x, 4, 32);
        pinAll(x, 40);
        due("advise(20)", x.advise(20), 1);
        due("window()", x.window(), 20);
        dueMoves(x, 20, 4);
        due("apply()", x.apply(), 1);
        dueFree(x, 16, 24);
        // The block at 32 leaves a place beside 44, where the one at 24 is still to go.
        RunHeap y = heapOf(60, 12, 4, 4, 8, 12, 8, 4);
        freeAll(y, 4, 44);
        pinAll(y, 16, 52);
        due("set(24, 6, 7)", y.set(24, 6, 7), 0);
        due("advise(24)", y.advise(24), 3);
        due("window()", y.window(), 20);
        dueMoves(y, 32, 4, 24, 44, 20, 56);
        due("apply()", y.apply(), 3);
        dueFree(y, 20, 24);
        due("sizeOf(4)", y.sizeOf(4), 11);
        due("sizeOf(44)", y.sizeOf(44), 7);
        due("sizeOf(56)", y.sizeOf(56), 3);
        due("get(44, 6)", y.get(44, 6), 7);
        freeAll(y, 4);
        due("advise(32), what was moved is not pinned", y.advise(32), 1);
        dueMoves(y, 44, 4);
    }

    private static void moved() {
        promise = "promise 19";
        RunHeap x = heapWithFiveToMove();
        due("moved(8)", x.moved(8), RunHeap.NONE);
        due("advise(36)", x.advise(36), 5);
        due("moved(8), only advised", x.moved(8), RunHeap.NONE);
        due("apply()", x.apply(), 5);
        for (int round = 0; round < 2; round++) {
            due("moved(4)", x.moved(4), 44);
            due("moved(8)", x.moved(8), 56);
            due("moved(20)", x.moved(20), 48);
            due("moved(24)", x.moved(24), 68);
            due("moved(36)", x.moved(36), 80);
            due("moved(40), not moved", x.moved(40), RunHeap.NONE);
            due("moved(56), a new address", x.moved(56), RunHeap.NONE);
            due("moved(12), inside", x.moved(12), RunHeap.NONE);
            due("moved(88), free", x.moved(88), RunHeap.NONE);
            due("apply(), refused", x.apply(), RunHeap.NONE);
            due("give(7)", x.give(7), 4 + 8 * round);
            due("free(68)", x.free(68), round == 0);
            due("advise(4)", x.advise(4), 0);
            due("advise(0)", x.advise(0), RunHeap.NONE);
        }
        for (int address : ODD_ADDRESSES) {
            due("moved(" + address + ")", x.moved(address), RunHeap.NONE);
        }
        due("advise(4)", x.advise(4), 0);
        due("apply()", x.apply(), 0);
        for (int address = 4; address < 100; address += 4) {
            due("moved(" + address + "), the latest moved none", x.moved(address), RunHeap.NONE);
        }
    }
}
