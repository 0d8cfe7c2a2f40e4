/** The largest heaps, the deepest trees, the most live blocks with advice, long runs of calls. */
public final class RunHeapLimits {

    private static int wrong = 0;

    private static void due(String call, int got, int want) {
        if (got != want) {
            wrong++;
            System.out.println(call + " answered " + got + ", due is " + want);
        }
    }

    private static void due(String call, boolean got, boolean want) {
        due(call, got ? 1 : 0, want ? 1 : 0);
    }

    public static void main(String[] args) {
        deepTreeToTheRight();
        deepTreeToTheLeft();
        mostBlocks();
        mostMoves();
        mostVictims();
        adviceOfNoUse();
        System.out.println(wrong == 0 ? "all limits hold" : wrong + " answers are not as due");
        if (wrong != 0) {
            System.exit(1);
        }
    }

    private static void deepTreeToTheRight() {
        RunHeap x = new RunHeap(4096);
        for (int i = 1; i <= 505; i++) {
            due("giveAligned(3, 8)", x.giveAligned(3, 8), 8 * i);
        }
        due("count(0)", x.count(0), 506);
        due("count(4), the rest and a chain to its left", x.count(4), 506);
        due("branch(4044, 0)", x.branch(4044, 0), 4);
        due("branch(4044, 1)", x.branch(4044, 1), 0);
        due("branch(4, 1)", x.branch(4, 1), 12);
        due("branch(4036, 1)", x.branch(4036, 1), 0);
        due("freeAt(505)", x.freeAt(505), 4044);
    }

    private static void deepTreeToTheLeft() {
        RunHeap x = new RunHeap(4096);
        int address = 4;
        for (int i = 1; i <= 43; i++) {
            due("give", x.give(4 * i - 1), address);
            due("give", x.give(3), address + 4 * i);
            address += 4 * i + 4;
        }
        due("largest()", x.largest(), 4096 - address);
        address = 4;
        for (int i = 1; i <= 43; i++) {
            due("free", x.free(address), true);
            address += 4 * i + 4;
        }
        due("count(0)", x.count(0), 44);
        due("count(4), each larger than the one before", x.count(4), 43);
        due("freeAt(43)", x.freeAt(43), address);
        due("branch, the one before", x.branch(address - 43 * 4 - 4, 0), address - 85 * 4 - 8);
        due("branch, the last", x.branch(address - 43 * 4 - 4, 1), address);
    }

    private static void mostBlocks() {
        RunHeap x = new RunHeap(4096);
        for (int i = 1; i <= 508; i++) {
            due("give(1)", x.give(1), 4 * i);
        }
        due("count(2)", x.count(2), 508);
        due("advise(1)", x.advise(1), RunHeap.NONE);
        due("free(2032)", x.free(2032), true);
        due("freeAt(0)", x.freeAt(0), 2032);
    }

    /** In turn 4 live words and 12 free ones, 128 times. */
    private static RunHeap brokenHeap() {
        RunHeap x = new RunHeap(2051);
        for (int i = 0; i < 128; i++) {
            due("give(15)", x.give(15), 4 + 16 * i);
        }
        for (int i = 0; i < 128; i++) {
            due("trim(3)", x.trim(4 + 16 * i, 3), true);
        }
        return x;
    }

    private static void mostMoves() {
        RunHeap x = brokenHeap();
        due("advise(1537)", x.advise(1537), RunHeap.NONE);
        due("advise(1536), all places are needed", x.advise(1536), 96);
        due("window()", x.window(), 4);
        for (int i = 0; i < 96; i++) {
            due("move(" + i + ", 0)", x.move(i, 0), 4 + 16 * i);
            due("move(" + i + ", 1)", x.move(i, 1), 4 + 16 * (96 + i / 3) + 4 + 4 * (i % 3));
        }
        due("set(1524, 2, 5)", x.set(1524, 2, 5), 0);
        due("apply()", x.apply(), 96);
        due("largest()", x.largest(), 1536);
        due("count(0)", x.count(0), 1);
        due("count(2)", x.count(2), 128);
        due("moved(1524)", x.moved(1524), 2048);
        due("get(2048, 2)", x.get(2048, 2), 5);
    }

    /** 1016 free words, 127 blocks of 8, one of 1020 that fits only behind it, 1020 free words. */
    private static void mostVictims() {
        RunHeap x = new RunHeap(4075);
        due("give(1015)", x.give(1015), 4);
        for (int i = 0; i < 127; i++) {
            due("give(7)", x.give(7), 1020 + 8 * i);
        }
        due("give(1019)", x.give(1019), 2036);
        due("free(4)", x.free(4), true);
        due("set(2036, 1018, 1)", x.set(2036, 1018, 1), 0);
        due("set(2028, 6, 2)", x.set(2028, 6, 2), 0);
        due("advise(2037)", x.advise(2037), RunHeap.NONE);
        due("advise(2036)", x.advise(2036), 128);
        due("window()", x.window(), 1020);
        due("move(0, 0)", x.move(0, 0), 2036);
        due("move(0, 1)", x.move(0, 1), 3056);
        for (int i = 1; i < 128; i++) {
            due("move(" + i + ", 0)", x.move(i, 0), 1012 + 8 * i);
            due("move(" + i + ", 1)", x.move(i, 1), 8 * i - 4);
        }
        due("apply()", x.apply(), 128);
        due("largest()", x.largest(), 2036);
        due("count(0)", x.count(0), 1);
        due("moved(2036)", x.moved(2036), 3056);
        due("moved(2028)", x.moved(2028), 1012);
        due("get(3056, 1018)", x.get(3056, 1018), 1);
        due("get(1012, 6)", x.get(1012, 6), 2);
    }

    private static void adviceOfNoUse() {
        RunHeap x = brokenHeap();
        for (int i = 0; i < 250; i++) {
            due("advise(" + (1537 + i) + ")", x.advise(1537 + i), RunHeap.NONE);
        }
        due("advise(1532), from a free block on", x.advise(1532), 95);
        due("window()", x.window(), 8);
    }
}
