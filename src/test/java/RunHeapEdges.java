import java.util.NoSuchElementException;

/** The boundary cases that the promises name, a test for each sentence. */
public final class RunHeapEdges extends SentenceTest {

    private static final String ALL_KINDS = "4 -8 !8 -4 4 8 -4";
    private static final int[] ALL_KINDS_LIVE = {4, 16, 28, 32};
    private static final int[] ALL_KINDS_FREE = {8, 24, 40};
    private static final int[] BELOW_ONE = {LEAST, LEAST + 1, -4, -1, 0};

    private interface OfAddress {
        int answer(RunHeap x, int address);
    }

    public static void main(String[] args) {
        aNewObject();
        givingAndFreeing();
        growingAndTrimming();
        pinning();
        reading();
        counting();
        theTree();
        advising();
        moving();
        end();
    }

    private static void aNewObject() {
        sentence("So many words, 16 .. 4096 (what is less or more is the nearest of these).",
                RunHeapEdges::nearestOf16To4096);
    }

    private static void givingAndFreeing() {
        sentence("The lowest free block that is large enough for so many words gives a block for "
                + "them", RunHeapEdges::lowestThatIsLargeEnough);
        sentence("from its low end: its address", RunHeapEdges::givesFromTheLowEnd);
        sentence("its address; 0 if there is none", RunHeapEdges::givesNone);
        sentence("0 if there is none, or words is below 1.", RunHeapEdges::givesNoneBelowOne);
        sentence("All words of its payload are 0.", RunHeapEdges::givesZeros);
        sentence("As give, at the lowest address that is a multiple of a",
                RunHeapEdges::lowestMultiple);
        sentence("wherever in a free block it is", RunHeapEdges::whereverInAFreeBlock);
        sentence("wherever in a free block it is: 0 if there is none",
                RunHeapEdges::noMultipleIsThere);
        sentence("0 if there is none, words is below 1, or a is not",
                RunHeapEdges::alignedBelowOne);
        sentence("a is not 4, 8, 16, .. 1024", RunHeapEdges::eachAlignment);
        sentence("The block is free: true; false if none that is live has that address.",
                RunHeapEdges::freesLiveOnes);
    }

    private static void growingAndTrimming() {
        sentence("A block is one for so many words, if it is smaller: true",
                RunHeapEdges::growsIfSmaller);
        sentence("what comes to its payload is 0", RunHeapEdges::growsByZeros);
        sentence("False if none that is live has that address, words is below 1, or the free block",
                RunHeapEdges::growsLiveOnesFromOneWordOn);
        sentence("or the free block directly behind it is too small", RunHeapEdges::growsTooMuch);
        sentence("is too small, or there is none", RunHeapEdges::growsWithNothingBehind);
        sentence("(One that is large enough stays as it is: true.)", RunHeapEdges::growsNot);
        sentence("A block is one for so many words, what is behind them is free: true",
                RunHeapEdges::trims);
        sentence("(also if it is one already)", RunHeapEdges::trimsNot);
        sentence("False if none that is live has that address, words is below 1, or it would be",
                RunHeapEdges::trimsLiveOnesFromOneWordOn);
        sentence("or it would be larger", RunHeapEdges::trimsToMore);
    }

    private static void pinning() {
        sentence("A block is pinned, or not: true", RunHeapEdges::pinsAndUnpins);
        sentence("A block is pinned, or not: true; false if none that is live has that address.",
                RunHeapEdges::pinsLiveOnes);
    }

    private static void reading() {
        sentence("Word i of the payload, from 0 on.", RunHeapEdges::getsFromZeroOn);
        sentence("from 0 on. NoSuchElementException if no live block has that address",
                RunHeapEdges::getsOfLiveOnes);
        sentence("Word i of the payload, from 0 on. NoSuchElementException if no live block has "
                + "that address; IndexOutOfBoundsException if its payload has no such word.",
                RunHeapEdges::getsNoSuchWord);
        sentence("Word i of the payload is v: the one before.", RunHeapEdges::setsEachValue);
        sentence("the one before. NoSuchElementException if no live block has that address",
                RunHeapEdges::setsOfLiveOnes);
        sentence("the one before. NoSuchElementException if no live block has that address; "
                + "IndexOutOfBoundsException if its payload has no such word.",
                RunHeapEdges::setsNoSuchWord);
        sentence("How many words the payload has; NONE if no live block has that address.",
                RunHeapEdges::sizesOfLiveOnes);
    }

    private static void counting() {
        sentence("How many words the largest free block has; 0 if there is none.",
                RunHeapEdges::largestOfAll);
        sentence("What 0: how many free blocks, 1: how many words all of them have, 2: how many "
                + "live blocks", RunHeapEdges::countsBlocksAndWords);
        sentence("3: how many moves are there", RunHeapEdges::countsMoves);
        sentence("(the top is 1 deep; 0 without one)", RunHeapEdges::countsDepth);
        sentence("NONE for another what.", RunHeapEdges::countsNothingElse);
        sentence("The address of the k-th free block, from 0, the lowest, on; NONE if there is "
                + "none.", RunHeapEdges::freeFromTheLowestOn);
    }

    private static void theTree() {
        sentence("side 0: the top of what is to its left, 1: to its right, 0 if nothing is",
                RunHeapEdges::branchesAndNone);
        sentence("2: how many words it has", RunHeapEdges::branchWords);
        sentence("NoSuchElementException if no free block has that address",
                RunHeapEdges::branchesOfFreeOnes);
        sentence("IllegalArgumentException for another side", RunHeapEdges::noOtherSide);
    }

    private static void advising() {
        sentence("ADVICE for so many words: how many victims", RunHeapEdges::advisesVictims);
        sentence("(and no moves are there) if there is no such window",
                RunHeapEdges::advisesNoWindow);
        sentence("if there is no such window, words is below 1", RunHeapEdges::advisesBelowOne);
        sentence("or there are more than 128 live blocks", RunHeapEdges::advisesUpTo128);
        sentence("The address of the lowest block of the advised window; NONE if no advice is "
                + "there.", RunHeapEdges::windowOrNone);
    }

    private static void moving() {
        sentence("Of move i, from 0 on, what 0: the victim's address, 1: its new one.",
                RunHeapEdges::movesFromZeroOn);
        sentence("IndexOutOfBoundsException if there is none such", RunHeapEdges::noSuchMove);
        sentence("IllegalArgumentException for another what", RunHeapEdges::noOtherWhat);
        sentence("The moves of the latest advice are made, each block with what is in its "
                + "payload: how many", RunHeapEdges::appliesMoves);
        sentence("how many; NONE if no advice is there.", RunHeapEdges::appliesNothing);
        sentence("Then none is there.", RunHeapEdges::appliesOnce);
        sentence("Where the block with an address came by the latest apply",
                RunHeapEdges::movedByTheLatest);
        sentence("NONE if that moved none from there", RunHeapEdges::movedNone);
    }

    /** Asks of every address in and around the row, and of the ends of int, on an object each. */
    private static void dueOnlyAt(int[] addresses, String call, OfAddress made, String refused) {
        for (int address = -9; address <= 60; address++) {
            dueAt(address, addresses, call, made, refused);
        }
        for (int address : new int[] {LEAST, LEAST + 4, 4096, 4100, 1 << 30, MOST - 3, MOST}) {
            dueAt(address, addresses, call, made, refused);
        }
    }

    private static void dueAt(int address, int[] addresses, String call, OfAddress made,
            String refused) {
        boolean isOne = false;
        for (int one : addresses) {
            isOne |= one == address;
        }
        RunHeap x = rowOf(ALL_KINDS);
        String got = answerOf(() -> made.answer(x, address));
        due(call + " at " + address + ", not refused", !got.equals(refused), isOne);
    }

    private static void dueOnlyLive(String call, OfAddress made, String refused) {
        dueOnlyAt(ALL_KINDS_LIVE, call, made, refused);
        // Without a live block, and at the address of one that is there no more.
        RunHeap x = new RunHeap(16);
        due(call + " in an empty heap", answerOf(() -> made.answer(x, 4)), refused);
        due("give(11)", x.give(11), 4);
        due("free(4)", x.free(4), true);
        due(call + " when it is freed", answerOf(() -> made.answer(x, 4)), refused);
        RunHeap y = rowOf("-4 8 4");
        due("free(8)", y.free(8), true);
        due(call + " when it is one with another", answerOf(() -> made.answer(y, 8)), refused);
        RunHeap z = rowOf("-8 8 -4 !4");
        due("advise(12)", z.advise(12), 1);
        due("apply()", z.apply(), 1);
        due(call + " when it is moved", answerOf(() -> made.answer(z, 12)), refused);
        due(call + " where it is", !answerOf(() -> made.answer(z, 4)).equals(refused), true);
    }

    private static void nearestOf16To4096() {
        int[] asked = {LEAST, -4096, -16, -1, 0, 1, 15, 16, 18, 19, 4094, 4095, 4096, 4097, 8192,
            MOST - 1, MOST};
        int[] row = {12, 12, 12, 12, 12, 12, 12, 12, 12, 16, 4088, 4092, 4092, 4092, 4092, 4092,
            4092};
        for (int k = 0; k < asked.length; k++) {
            RunHeap x = new RunHeap(asked[k]);
            due("largest() of " + asked[k], x.largest(), row[k]);
            due("give(" + row[k] + ") of " + asked[k], x.give(row[k]), 0);
            due("give(" + (row[k] - 1) + ") of " + asked[k], x.give(row[k] - 1), 4);
            due("give(1) of " + asked[k], x.give(1), 0);
        }
    }

    private static void lowestThatIsLargeEnough() {
        String blocks = "-4 4 -8 4 -12 4 -8";
        int[] lowest = {4, 4, 4, 12, 12, 12, 12, 24, 24, 24, 24, 0, 0};
        for (int k = 0; k < lowest.length; k++) {
            due("give(" + (k + 1) + ")", rowOf(blocks).give(k + 1), lowest[k]);
        }
    }

    private static void givesFromTheLowEnd() {
        RunHeap x = rowOf("4 -12 4");
        due("give(1)", x.give(1), 8);
        dueRow(x, "4 4 -8 4");
        due("give(7), all that is left", x.give(7), 12);
        dueRow(x, "4 4 8 4");
    }

    private static void givesNone() {
        RunHeap full = rowOf("8 !4");
        RunHeap empty = new RunHeap(16);
        RunHeap parted = rowOf("-4 4 -8");
        for (int words : new int[] {12, 13, 4091, 4092, 4096, 1 << 30, MOST - 4, MOST - 3, MOST}) {
            due("give(" + words + ")", empty.give(words), 0);
            due("give(" + words + ") in a full heap", full.give(words), 0);
            due("give(" + words + "), enough only in all", parted.give(words), 0);
        }
        due("give(8), enough only in all", parted.give(8), 0);
        due("give(1) in a full heap", full.give(1), 0);
        due("give(11)", empty.give(11), 4);
    }

    private static void givesNoneBelowOne() {
        RunHeap empty = new RunHeap(4096);
        RunHeap full = rowOf("12");
        for (int words : BELOW_ONE) {
            due("give(" + words + ")", empty.give(words), 0);
            due("give(" + words + ") in a full heap", full.give(words), 0);
        }
        due("give(1)", empty.give(1), 4);
    }

    private static void givesZeros() {
        RunHeap x = rowOf("8 12 4");
        fill(x, 4);
        fill(x, 12);
        fill(x, 24);
        due("free(4)", x.free(4), true);
        due("free(12)", x.free(12), true);
        due("give(15) over two that were", x.give(15), 4);
        dueZeros(x, 4, 0, 15);
        dueFilled(x, 24, 24, 0, 3);
        fill(x, 4);
        due("trim(4, 3)", x.trim(4, 3), true);
        due("giveAligned(3, 16) in what was trimmed", x.giveAligned(3, 16), 16);
        dueZeros(x, 16, 0, 3);
        RunHeap y = rowOf("-8 8 -4 !4");
        fill(y, 12);
        due("advise(12)", y.advise(12), 1);
        due("apply()", y.apply(), 1);
        due("give(11) where one was moved from", y.give(11), 12);
        dueZeros(y, 12, 0, 11);
        dueFilled(y, 4, 12, 0, 7);
    }

    private static void lowestMultiple() {
        RunHeap whole = new RunHeap(4096);
        due("giveAligned(1023, 1024)", whole.giveAligned(1023, 1024), 1024);
        due("giveAligned(1023, 1024)", whole.giveAligned(1023, 1024), 2048);
        due("giveAligned(1023, 1024), up to the end", whole.giveAligned(1023, 1024), 3072);
        due("giveAligned(1023, 1024)", whole.giveAligned(1023, 1024), 0);
        dueRow(whole, "-1020 1024 1024 1024");
        RunHeap x = rowOf("-8 4 -12");
        due("giveAligned(7, 8), not in the lower one", x.giveAligned(7, 8), 16);
        due("giveAligned(7, 4)", x.giveAligned(7, 4), 4);
        RunHeap y = rowOf("-4 4 -4 4 -4");
        due("giveAligned(3, 8), at the last group", y.giveAligned(3, 8), 0);
        due("giveAligned(3, 4)", y.giveAligned(3, 4), 4);
        due("giveAligned(3, 4)", y.giveAligned(3, 4), 12);
        due("giveAligned(3, 4), at the last group", y.giveAligned(3, 4), 20);
    }

    private static void whereverInAFreeBlock() {
        RunHeap x = rowOf("-12");
        due("giveAligned(3, 8), in the middle", x.giveAligned(3, 8), 8);
        dueRow(x, "-4 4 -4");
        x = rowOf("-12");
        due("giveAligned(7, 8), at the high end", x.giveAligned(7, 8), 8);
        dueRow(x, "-4 8");
        x = rowOf("4 -12");
        due("giveAligned(7, 8), at the low end", x.giveAligned(7, 8), 8);
        dueRow(x, "4 8 -4");
        x = rowOf("4 -8 4");
        due("giveAligned(7, 8), all of it", x.giveAligned(7, 8), 8);
        dueRow(x, "4 8 4");
    }

    private static void noMultipleIsThere() {
        RunHeap x = rowOf("-12");
        due("giveAligned(8, 8), too long from 8 on", x.giveAligned(8, 8), 0);
        due("giveAligned(1, 16), behind the row", x.giveAligned(1, 16), 0);
        due("giveAligned(1, 1024)", x.giveAligned(1, 1024), 0);
        due("giveAligned(1, 4) in a full heap", rowOf("12").giveAligned(1, 4), 0);
        due("giveAligned(1, 8), only 8 is live", rowOf("-4 4 -4").giveAligned(1, 8), 0);
        due("giveAligned(1, 1024), too short", new RunHeap(1026).giveAligned(1, 1024), 0);
        due("giveAligned(1, 1024), just", new RunHeap(1027).giveAligned(1, 1024), 1024);
        for (int a = 4; a <= 1024; a *= 2) {
            RunHeap whole = new RunHeap(4096);
            int most = 4096 - a - 1;
            for (int words : new int[] {most + 1, 4092, 4096, 1 << 30, MOST - 3, MOST}) {
                due("giveAligned(" + words + ", " + a + ")", whole.giveAligned(words, a), 0);
            }
            due("giveAligned(" + most + ", " + a + ")", whole.giveAligned(most, a), a);
        }
    }

    private static void alignedBelowOne() {
        RunHeap x = new RunHeap(4096);
        for (int words : BELOW_ONE) {
            for (int a = 4; a <= 1024; a *= 2) {
                due("giveAligned(" + words + ", " + a + ")", x.giveAligned(words, a), 0);
            }
        }
        due("giveAligned(1, 4)", x.giveAligned(1, 4), 4);
    }

    private static boolean isAlignment(int a) {
        return a == 4 || a == 8 || a == 16 || a == 32 || a == 64 || a == 128 || a == 256
                || a == 512 || a == 1024;
    }

    private static void eachAlignment() {
        for (int a = -2100; a <= 4200; a++) {
            int got = new RunHeap(4096).giveAligned(1, a);
            due("giveAligned(1, " + a + ")", got, isAlignment(a) ? a : 0);
        }
        for (int power = 0; power < 32; power++) {
            int a = 1 << power;
            int got = new RunHeap(4096).giveAligned(1, a);
            due("giveAligned(1, " + a + ")", got, isAlignment(a) ? a : 0);
            due("giveAligned(1, " + -a + ")", new RunHeap(4096).giveAligned(1, -a), 0);
        }
        due("giveAligned(1, most)", new RunHeap(4096).giveAligned(1, MOST), 0);
        due("giveAligned(1, least)", new RunHeap(4096).giveAligned(1, LEAST), 0);
    }

    private static void freesLiveOnes() {
        dueOnlyLive("free", (x, address) -> x.free(address) ? 1 : 0, "0");
        RunHeap x = rowOf("12");
        due("free(4) in a full heap", x.free(4), true);
        dueRow(x, "-12");
        due("free(4) again", x.free(4), false);
        RunHeap y = rowOf("!4 !4 4");
        due("free(8), pinned", y.free(8), true);
        dueRow(y, "4 -4 4");
        due("free(12), the last group", y.free(12), true);
        dueRow(y, "4 -8");
        due("free(4), the first group", y.free(4), true);
        dueRow(y, "-12");
    }

    private static void growsIfSmaller() {
        RunHeap x = rowOf("8 -12 4");
        due("grow(4, 8)", x.grow(4, 8), true);
        dueRow(x, "12 -8 4");
        due("grow(4, 16), all that is free behind", x.grow(4, 16), true);
        dueRow(x, "20 4");
        RunHeap y = rowOf("!4 -8");
        due("grow(4, 11), up to the last group's end", y.grow(4, 11), true);
        dueRow(y, "12");
        due("advise(1), still pinned", y.advise(1), NONE);
    }

    private static void growsByZeros() {
        RunHeap x = rowOf("12 8 4");
        fill(x, 4);
        fill(x, 16);
        fill(x, 24);
        due("trim(4, 3)", x.trim(4, 3), true);
        due("free(16)", x.free(16), true);
        due("grow(4, 4)", x.grow(4, 4), true);
        dueFilled(x, 4, 4, 0, 3);
        dueZeros(x, 4, 3, 7);
        due("grow(4, 19)", x.grow(4, 19), true);
        dueFilled(x, 4, 4, 0, 3);
        dueZeros(x, 4, 3, 19);
        dueFilled(x, 24, 24, 0, 3);
    }

    private static void growsLiveOnesFromOneWordOn() {
        dueOnlyLive("grow to 1", (x, address) -> x.grow(address, 1) ? 1 : 0, "0");
        RunHeap x = rowOf("8 -12");
        for (int words : BELOW_ONE) {
            due("grow(4, " + words + ")", x.grow(4, words), false);
        }
        due("grow(4, 1)", x.grow(4, 1), true);
        dueRow(x, "8 -12");
    }

    private static void growsTooMuch() {
        RunHeap x = rowOf("8 -4 4 -12");
        for (int words : new int[] {12, 13, 27, 4092, 4096, 1 << 30, MOST - 4, MOST - 3, MOST}) {
            due("grow(4, " + words + ")", x.grow(4, words), false);
        }
        dueRow(x, "8 -4 4 -12");
        due("grow(4, 11)", x.grow(4, 11), true);
        due("grow(16, 16)", x.grow(16, 16), false);
        due("grow(16, 15)", x.grow(16, 15), true);
        dueRow(x, "12 16");
    }

    private static void growsWithNothingBehind() {
        RunHeap x = rowOf("-4 8 4 -4 4");
        for (int words : new int[] {8, 9, MOST}) {
            due("grow(8, " + words + "), a live one behind", x.grow(8, words), false);
            due("grow(24, " + words + "), the last group", x.grow(24, words), false);
        }
        due("grow(24, 4), the last group", x.grow(24, 4), false);
        due("grow(8, 7)", x.grow(8, 7), true);
        due("grow(4, 12) in a full heap", rowOf("12").grow(4, 12), false);
    }

    private static void growsNot() {
        RunHeap x = rowOf("12 -8 4");
        fill(x, 4);
        for (int words : new int[] {1, 2, 7, 8, 10, 11}) {
            due("grow(4, " + words + ")", x.grow(4, words), true);
            dueRow(x, "12 -8 4");
        }
        dueFilled(x, 4, 4, 0, 11);
        RunHeap full = rowOf("12");
        due("grow(4, 11) in a full heap", full.grow(4, 11), true);
        due("grow(4, 1) in a full heap", full.grow(4, 1), true);
        dueRow(full, "12");
    }

    private static void trims() {
        RunHeap x = rowOf("4 12 4");
        fill(x, 8);
        due("trim(8, 7)", x.trim(8, 7), true);
        dueRow(x, "4 8 -4 4");
        dueFilled(x, 8, 8, 0, 7);
        due("trim(8, 1)", x.trim(8, 1), true);
        dueRow(x, "4 4 -8 4");
        dueFilled(x, 8, 8, 0, 3);
        RunHeap y = rowOf("!12");
        due("trim(4, 4), up to the row's end", y.trim(4, 4), true);
        dueRow(y, "8 -4");
        due("advise(5), still pinned", y.advise(5), NONE);
    }

    private static void trimsNot() {
        RunHeap x = rowOf("4 12 4");
        fill(x, 8);
        for (int words : new int[] {8, 9, 10, 11}) {
            due("trim(8, " + words + ")", x.trim(8, words), true);
            dueRow(x, "4 12 4");
        }
        for (int words : new int[] {1, 2, 3}) {
            due("trim(4, " + words + ")", x.trim(4, words), true);
            due("trim(20, " + words + "), the last group", x.trim(20, words), true);
        }
        dueRow(x, "4 12 4");
        dueFilled(x, 8, 8, 0, 11);
    }

    private static void trimsLiveOnesFromOneWordOn() {
        dueOnlyLive("trim to 1", (x, address) -> x.trim(address, 1) ? 1 : 0, "0");
        RunHeap x = rowOf("8 -12");
        for (int words : BELOW_ONE) {
            due("trim(4, " + words + ")", x.trim(4, words), false);
        }
        dueRow(x, "8 -12");
        due("trim(4, 1)", x.trim(4, 1), true);
        dueRow(x, "4 -16");
    }

    private static void trimsToMore() {
        RunHeap x = rowOf("8 -12");
        for (int words : new int[] {8, 9, 11, 12, 4092, 4096, 1 << 30, MOST - 3, MOST}) {
            due("trim(4, " + words + ")", x.trim(4, words), false);
        }
        dueRow(x, "8 -12");
    }

    private static void pinsAndUnpins() {
        RunHeap x = rowOf("4 -4 4");
        due("advise(8) without a place", x.advise(8), NONE);
        x = rowOf("8 -4 !4 -8");
        dueAdvice(x, 12, 4, 4, 20);
        for (int round = 0; round < 2; round++) {
            due("pin(4, true)", x.pin(4, true), true);
            due("advise(12)", x.advise(12), NONE);
        }
        for (int round = 0; round < 2; round++) {
            due("pin(4, false)", x.pin(4, false), true);
            dueAdvice(x, 12, 4, 4, 20);
        }
        dueRow(x, "8 -4 4 -8");
    }

    private static void pinsLiveOnes() {
        dueOnlyLive("pin", (x, address) -> x.pin(address, true) ? 1 : 0, "0");
        dueOnlyLive("unpin", (x, address) -> x.pin(address, false) ? 1 : 0, "0");
    }

    private static void getsFromZeroOn() {
        RunHeap x = rowOf("4 8 !4");
        fill(x, 4);
        fill(x, 8);
        fill(x, 16);
        due("get(8, 0)", x.get(8, 0), 80001);
        due("get(8, 6), the last", x.get(8, 6), 80007);
        due("get(4, 0), the row's first word", x.get(4, 0), 40001);
        due("get(16, 2), the row's last word", x.get(16, 2), 160003);
    }

    private static void getsOfLiveOnes() {
        dueOnlyLive("get", (x, address) -> x.get(address, 0), "throws.NoSuchElementException");
    }

    private static void getsNoSuchWord() {
        RunHeap x = rowOf("4 8 4");
        for (int i : new int[] {LEAST, LEAST + 8, -8, -1, 7, 8, 4096, MOST - 8, MOST}) {
            dueThrow("get(8, " + i + ")", IndexOutOfBoundsException.class, () -> x.get(8, i));
        }
        RunHeap y = rowOf("12 -4");
        due("trim(4, 3)", y.trim(4, 3), true);
        due("get(4, 2)", y.get(4, 2), 0);
        dueThrow("get(4, 3), trimmed", IndexOutOfBoundsException.class, () -> y.get(4, 3));
        due("grow(4, 7)", y.grow(4, 7), true);
        due("get(4, 6)", y.get(4, 6), 0);
        dueThrow("get(4, 7), grown", IndexOutOfBoundsException.class, () -> y.get(4, 7));
        RunHeap z = rowOf("12");
        due("get(4, 10), the row's last word", z.get(4, 10), 0);
        dueThrow("get(4, 11), behind the row", IndexOutOfBoundsException.class, () -> z.get(4, 11));
    }

    private static void setsEachValue() {
        RunHeap x = rowOf("4 8 4");
        int before = 0;
        for (int v : new int[] {LEAST, MOST, -1, 0, 1, LEAST, 0}) {
            due("set(8, 0, " + v + ")", x.set(8, 0, v), before);
            due("get(8, 0)", x.get(8, 0), v);
            before = v;
        }
        fill(x, 4);
        fill(x, 16);
        due("set(8, 6, 9)", x.set(8, 6, 9), 0);
        due("set(8, 6, 10)", x.set(8, 6, 10), 9);
        dueZeros(x, 8, 0, 6);
        dueFilled(x, 4, 4, 0, 3);
        dueFilled(x, 16, 16, 0, 3);
    }

    private static void setsOfLiveOnes() {
        dueOnlyLive("set", (x, address) -> x.set(address, 0, 1), "throws.NoSuchElementException");
    }

    private static void setsNoSuchWord() {
        RunHeap x = rowOf("4 8 4");
        for (int i : new int[] {LEAST, LEAST + 8, -8, -1, 7, 8, 4096, MOST - 8, MOST}) {
            dueThrow("set(8, " + i + ", 1)", IndexOutOfBoundsException.class,
                    () -> x.set(8, i, 1));
        }
        dueZeros(x, 4, 0, 3);
        dueZeros(x, 8, 0, 7);
        dueZeros(x, 16, 0, 3);
        due("set(16, 2, 5), the row's last word", x.set(16, 2, 5), 0);
        dueThrow("set(16, 3, 5), behind the row", IndexOutOfBoundsException.class,
                () -> x.set(16, 3, 5));
    }

    private static void sizesOfLiveOnes() {
        dueOnlyLive("sizeOf", (x, address) -> x.sizeOf(address), "-1");
        RunHeap x = rowOf("4 8 !12");
        due("sizeOf(4)", x.sizeOf(4), 3);
        due("sizeOf(8)", x.sizeOf(8), 7);
        due("sizeOf(16)", x.sizeOf(16), 11);
        due("sizeOf(4), all of the row", rowOf("4092").sizeOf(4), 4091);
    }

    private static void largestOfAll() {
        due("largest() in a full heap", rowOf("8 4").largest(), 0);
        due("largest() in an empty heap", new RunHeap(16).largest(), 12);
        due("largest() in the largest", new RunHeap(4096).largest(), 4092);
        due("largest(), the first", rowOf("-8 4 -4").largest(), 8);
        due("largest(), the last", rowOf("-4 4 -8").largest(), 8);
        due("largest(), the one in the middle", rowOf("-4 4 -8 4 -4").largest(), 8);
        due("largest(), equal ones", rowOf("-4 4 -4 8").largest(), 4);
    }

    private static void dueCounts(String blocks, int free, int words, int live) {
        RunHeap x = rowOf(blocks);
        due("count(0) of " + blocks, x.count(0), free);
        due("count(1) of " + blocks, x.count(1), words);
        due("count(2) of " + blocks, x.count(2), live);
    }

    private static void countsBlocksAndWords() {
        dueCounts("-12", 1, 12, 0);
        dueCounts("12", 0, 0, 1);
        dueCounts("4 !4 4", 0, 0, 3);
        dueCounts("-4 4 -4", 2, 8, 1);
        dueCounts("!4 -4 !4", 1, 4, 2);
        dueCounts(ALL_KINDS, 3, 16, 4);
        RunHeap x = new RunHeap(4096);
        for (int i = 1; i <= 255; i++) {
            due("giveAligned(3, 16)", x.giveAligned(3, 16), 16 * i);
        }
        due("giveAligned(3, 16)", x.giveAligned(3, 16), 0);
        due("count(0), between them and behind", x.count(0), 256);
        due("count(1)", x.count(1), 4092 - 1020);
        due("count(2)", x.count(2), 255);
    }

    private static void countsMoves() {
        RunHeap x = rowOf("!4 4 8 !4 -8 !4 -4");
        due("count(3) without advice", x.count(3), 0);
        dueAdvice(x, 12, 8, 12, 24, 8, 36);
        due("count(3)", x.count(3), 2);
        due("advise(8)", x.advise(8), 0);
        due("count(3) without victims", x.count(3), 0);
        due("advise(12)", x.advise(12), 2);
        due("advise(13)", x.advise(13), NONE);
        due("count(3) after NONE", x.count(3), 0);
        due("advise(12)", x.advise(12), 2);
        due("apply()", x.apply(), 2);
        due("count(3) after apply", x.count(3), 0);
    }

    private static void countsDepth() {
        due("count(4) without a tree", rowOf("12").count(4), 0);
        due("count(4) of one", new RunHeap(16).count(4), 1);
        due("count(4) of two", rowOf("-4 4 -4").count(4), 2);
        due("count(4), one on each side", rowOf("-4 4 -8 4 -4").count(4), 2);
        due("count(4) of three equal ones", rowOf("-4 4 -4 4 -4").count(4), 3);
        due("count(4), to the right, then to the left",
                rowOf("-12 4 -4 4 -8").count(4), 3);
        RunHeap x = new RunHeap(4096);
        for (int i = 1; i <= 511; i++) {
            due("giveAligned(3, 8)", x.giveAligned(3, 8), 8 * i);
        }
        due("count(4), the deepest", x.count(4), 512);
    }

    private static void countsNothingElse() {
        RunHeap x = rowOf(ALL_KINDS);
        for (int what : new int[] {LEAST, LEAST + 1, -5, -2, -1, 5, 6, 8, 1 << 30, MOST}) {
            due("count(" + what + ")", x.count(what), NONE);
        }
        for (int what = 0; what <= 4; what++) {
            due("count(" + what + ")", x.count(what) == NONE, false);
        }
    }

    private static void freeFromTheLowestOn() {
        RunHeap x = rowOf("-8 4 -4 4 -12 4 -4");
        int[] addresses = {4, 16, 24, 40};
        for (int k = 0; k < addresses.length; k++) {
            due("freeAt(" + k + ")", x.freeAt(k), addresses[k]);
        }
        RunHeap full = rowOf("12");
        for (int k : new int[] {LEAST, LEAST + 1, -4, -1, 4, 5, 4096, MOST}) {
            due("freeAt(" + k + ")", x.freeAt(k), NONE);
            due("freeAt(" + k + ") in a full heap", full.freeAt(k), NONE);
        }
        due("freeAt(0) in a full heap", full.freeAt(0), NONE);
        due("freeAt(0) in an empty heap", new RunHeap(16).freeAt(0), 4);
        due("freeAt(1) in an empty heap", new RunHeap(16).freeAt(1), NONE);
    }

    private static void branchesAndNone() {
        RunHeap one = new RunHeap(16);
        due("branch(4, 0), nothing", one.branch(4, 0), 0);
        due("branch(4, 1), nothing", one.branch(4, 1), 0);
        RunHeap x = rowOf("-4 4 -8 4 -4");
        due("branch(12, 0)", x.branch(12, 0), 4);
        due("branch(12, 1)", x.branch(12, 1), 24);
        // What lies beside a block but above it in the tree is not to its left nor to its right.
        due("branch(4, 0)", x.branch(4, 0), 0);
        due("branch(4, 1)", x.branch(4, 1), 0);
        due("branch(24, 0)", x.branch(24, 0), 0);
        due("branch(24, 1), the last group", x.branch(24, 1), 0);
        RunHeap equal = rowOf("-4 4 -4 4 -4");
        due("branch(4, 1), equal ones", equal.branch(4, 1), 12);
        due("branch(12, 0), equal ones", equal.branch(12, 0), 0);
        due("branch(12, 1), equal ones", equal.branch(12, 1), 20);
        due("branch(20, 0), equal ones", equal.branch(20, 0), 0);
    }

    private static void branchWords() {
        due("branch(4, 2), all", new RunHeap(4096).branch(4, 2), 4092);
        due("branch(4, 2), the least heap", new RunHeap(LEAST).branch(4, 2), 12);
        due("branch(12, 2), the last group", rowOf("4 4 -4").branch(12, 2), 4);
    }

    private static void branchesOfFreeOnes() {
        for (int side = 0; side <= 2; side++) {
            int asked = side;
            dueOnlyAt(ALL_KINDS_FREE, "branch, side " + side,
                    (x, address) -> x.branch(address, asked), "throws.NoSuchElementException");
        }
        RunHeap full = rowOf("12");
        dueThrow("branch(4, 0) in a full heap", NoSuchElementException.class,
                () -> full.branch(4, 0));
        RunHeap joined = rowOf("4 -4 4");
        due("free(4)", joined.free(4), true);
        due("branch(4, 2)", joined.branch(4, 2), 8);
        dueThrow("branch(8, 2), one with the one before", NoSuchElementException.class,
                () -> joined.branch(8, 2));
    }

    private static void noOtherSide() {
        RunHeap x = rowOf(ALL_KINDS);
        for (int side : new int[] {LEAST, LEAST + 1, -2, -1, 3, 4, 1 << 30, MOST}) {
            dueThrow("branch(8, " + side + ")", IllegalArgumentException.class,
                    () -> x.branch(8, side));
        }
    }

    private static void advisesVictims() {
        RunHeap x = rowOf("!4 4 4 4 !4 -8 !4 -4");
        due("advise(8)", x.advise(8), 0);
        due("advise(9)", x.advise(9), 3);
        due("advise(12)", x.advise(12), 3);
        RunHeap empty = new RunHeap(16);
        due("advise(1) in an empty heap", empty.advise(1), 0);
        due("advise(12) in an empty heap", empty.advise(12), 0);
    }

    private static void advisesNoWindow() {
        for (int words : new int[] {17, 18, 4092, 4093, 1 << 30, MOST - 3, MOST}) {
            RunHeap x = rowOf("!4 8 -4 4 !4 -8 !4 -8");
            dueAdvice(x, 9, 8, 8, 28);
            due("advise(" + words + ")", x.advise(words), NONE);
            dueNoAdvice("advise(" + words + ")", x);
        }
        RunHeap empty = new RunHeap(16);
        due("advise(13) in an empty heap", empty.advise(13), NONE);
        for (int words : new int[] {1, 4, 12, 13}) {
            RunHeap full = rowOf("4 4 4");
            due("advise(" + words + ") in a full heap", full.advise(words), NONE);
            dueNoAdvice("advise(" + words + ")", full);
        }
    }

    private static void advisesBelowOne() {
        for (int words : BELOW_ONE) {
            RunHeap x = rowOf("!4 8 -4 4 !4 -8 !4 -8");
            dueAdvice(x, 9, 8, 8, 28);
            due("advise(" + words + ")", x.advise(words), NONE);
            dueNoAdvice("advise(" + words + ")", x);
            dueAdvice(x, 1, 16);
        }
    }

    private static void advisesUpTo128() {
        RunHeap x = new RunHeap(4096);
        for (int i = 1; i <= 128; i++) {
            due("give(3)", x.give(3), 4 * i);
            due("pin", x.pin(4 * i, i % 2 == 0), true);
        }
        dueAdvice(x, 1, 516);
        due("give(3)", x.give(3), 516);
        dueNoAdvice("give", x);
        due("advise(1) with 129", x.advise(1), NONE);
        due("pin(516, true)", x.pin(516, true), true);
        due("advise(1) with 129, more of them pinned", x.advise(1), NONE);
        due("free(4)", x.free(4), true);
        dueAdvice(x, 4, 4);
        due("give(1)", x.give(1), 4);
        due("advise(4) with 129 again", x.advise(4), NONE);
        dueNoAdvice("advise(4)", x);
    }

    private static void windowOrNone() {
        RunHeap x = rowOf("!4 8 -4 4 !4 -8 !4 -8");
        due("window() at first", x.window(), NONE);
        due("advise(12)", x.advise(12), 1);
        due("window(), a live block", x.window(), 8);
        due("window() again", x.window(), 8);
        due("advise(4)", x.advise(4), 0);
        due("window(), a free block", x.window(), 16);
        due("apply()", x.apply(), 0);
        due("window() after apply", x.window(), NONE);
        due("advise(17)", x.advise(17), NONE);
        due("window() after NONE", x.window(), NONE);
        RunHeap last = rowOf("4 4 -4");
        due("advise(4)", last.advise(4), 0);
        due("window(), the last group", last.window(), 12);
    }

    private static void movesFromZeroOn() {
        RunHeap x = rowOf("!4 4 8 !4 -8 !4 -4");
        due("advise(12)", x.advise(12), 2);
        due("move(0, 0)", x.move(0, 0), 12);
        due("move(0, 1)", x.move(0, 1), 24);
        due("move(1, 0)", x.move(1, 0), 8);
        due("move(1, 1), the last group", x.move(1, 1), 36);
    }

    private static void noSuchMove() {
        RunHeap x = rowOf("!4 4 8 !4 -8 !4 -4");
        dueThrow("move(0, 0) at first", IndexOutOfBoundsException.class, () -> x.move(0, 0));
        due("advise(12)", x.advise(12), 2);
        for (int i : new int[] {LEAST, LEAST + 1, -2, -1, 2, 3, 128, 4096, MOST}) {
            dueThrow("move(" + i + ", 0)", IndexOutOfBoundsException.class, () -> x.move(i, 0));
            dueThrow("move(" + i + ", 1)", IndexOutOfBoundsException.class, () -> x.move(i, 1));
        }
        due("apply()", x.apply(), 2);
        dueThrow("move(0, 0), they are made", IndexOutOfBoundsException.class, () -> x.move(0, 0));
        due("advise(4)", x.advise(4), 0);
        dueThrow("move(0, 1), no victims", IndexOutOfBoundsException.class, () -> x.move(0, 1));
    }

    private static void noOtherWhat() {
        RunHeap x = rowOf("!4 4 8 !4 -8 !4 -4");
        due("advise(12)", x.advise(12), 2);
        for (int what : new int[] {LEAST, LEAST + 1, -2, -1, 2, 3, 1 << 30, MOST}) {
            dueThrow("move(0, " + what + ")", IllegalArgumentException.class,
                    () -> x.move(0, what));
            dueThrow("move(1, " + what + ")", IllegalArgumentException.class,
                    () -> x.move(1, what));
        }
    }

    private static void appliesMoves() {
        RunHeap x = rowOf("!4 4 8 !4 -8 !4 -4");
        fill(x, 4);
        fill(x, 8);
        fill(x, 12);
        due("advise(8)", x.advise(8), 0);
        dueAdvice(x, 12, 8, 12, 24, 8, 36);
        due("apply()", x.apply(), 2);
        dueRow(x, "4 -12 4 8 4 4");
        dueFilled(x, 24, 12, 0, 7);
        dueFilled(x, 36, 8, 0, 3);
        dueFilled(x, 4, 4, 0, 3);
        appliesNoEarlierMoves(x);
        RunHeap none = rowOf("4 -8 4");
        due("advise(8)", none.advise(8), 0);
        due("apply() without victims", none.apply(), 0);
        dueRow(none, "4 -8 4");
        RunHeap empty = new RunHeap(16);
        due("advise(12)", empty.advise(12), 0);
        due("apply() in an empty heap", empty.apply(), 0);
        dueRow(empty, "-12");
    }

    /** The row comes to be as it was before the apply, so that its moves could be made again. */
    private static void appliesNoEarlierMoves(RunHeap x) {
        due("give(3)", x.give(3), 8);
        due("give(7)", x.give(7), 12);
        due("free(24)", x.free(24), true);
        due("free(36)", x.free(36), true);
        due("advise(8)", x.advise(8), 0);
        due("apply() without victims", x.apply(), 0);
        dueRow(x, "4 4 8 4 -8 4 -4");
    }

    private static void appliesNothing() {
        due("apply() in an empty heap", new RunHeap(16).apply(), NONE);
        due("apply() in a full heap", rowOf("8 4").apply(), NONE);
        RunHeap x = rowOf("!4 4 8 !4 -8 !4 -4");
        due("apply() at first", x.apply(), NONE);
        due("advise(13)", x.advise(13), NONE);
        due("apply() after NONE", x.apply(), NONE);
        due("advise(12)", x.advise(12), 2);
        due("pin(8, false)", x.pin(8, false), true);
        due("apply() when the advice has ended", x.apply(), NONE);
        dueRow(x, "!4 4 8 !4 -8 !4 -4");
    }

    private static void appliesOnce() {
        RunHeap x = rowOf("!4 4 8 !4 -8 !4 -4");
        due("advise(12)", x.advise(12), 2);
        due("apply()", x.apply(), 2);
        dueNoAdvice("apply", x);
        due("advise(12)", x.advise(12), 0);
        due("apply()", x.apply(), 0);
        dueNoAdvice("apply without victims", x);
    }

    private static void movedByTheLatest() {
        RunHeap x = rowOf("-8 8 -4 !4");
        dueAdvice(x, 12, 12, 12, 4);
        due("moved(12), only advised", x.moved(12), NONE);
        due("apply()", x.apply(), 1);
        due("moved(12)", x.moved(12), 4);
        due("free(4)", x.free(4), true);
        due("moved(12), it is freed since", x.moved(12), 4);
        due("give(15)", x.give(15), 4);
        due("moved(12), another is given there", x.moved(12), 4);
        due("trim(4, 7)", x.trim(4, 7), true);
        due("advise(13)", x.advise(13), NONE);
        due("apply(), refused", x.apply(), NONE);
        due("moved(12), the latest that was one", x.moved(12), 4);
        due("free(4)", x.free(4), true);
        due("giveAligned(7, 8)", x.giveAligned(7, 8), 8);
        due("advise(13)", x.advise(13), NONE);
        due("grow(8, 11)", x.grow(8, 11), true);
        dueRow(x, "-4 12 -4 4");
        due("advise(1)", x.advise(1), 0);
        due("moved(12), only advised anew", x.moved(12), 4);
        due("apply()", x.apply(), 0);
        due("moved(12), the latest moved none", x.moved(12), NONE);
    }

    private static void movedNone() {
        RunHeap x = rowOf("!4 4 8 !4 -8 !4 -4");
        for (int address = 0; address <= 40; address += 4) {
            due("moved(" + address + ") at first", x.moved(address), NONE);
        }
        due("advise(12)", x.advise(12), 2);
        due("apply()", x.apply(), 2);
        for (int address = -8; address <= 48; address++) {
            int to = address == 12 ? 24 : address == 8 ? 36 : NONE;
            due("moved(" + address + ")", x.moved(address), to);
        }
        for (int address : new int[] {LEAST, LEAST + 12, 4096, MOST - 3, MOST}) {
            due("moved(" + address + ")", x.moved(address), NONE);
        }
    }
}
