import java.util.ArrayList;
import java.util.List;

/** The boundary cases that the document names under "Terms", a test for each sentence. */
public final class RunHeapTerms extends SentenceTest {

    public static void main(String[] args) {
        theRow();
        theTree();
        theWindow();
        thePlaces();
        howLongAdviceIsThere();
        end();
    }

    private static void theRow() {
        sentence("An object is used for at most 512 calls after it has been made",
                RunHeapTerms::the512thCall);
        sentence("from word 3 on they are divided into BLOCKS without a gap, each of 4, 8, 12, .. "
                + "words", RunHeapTerms::blocksWithoutAGap);
        sentence("up to the last whole group of four", RunHeapTerms::upToTheLastWholeGroup);
        sentence("its first word is the heap's own, those behind it are its PAYLOAD",
                RunHeapTerms::payloadsAreBehindTheFirstWord);
        sentence("its ADDRESS is that of the first of them (a multiple of 4)",
                RunHeapTerms::addressesAreMultiplesOfFour);
        sentence("No two free blocks lie side by side", RunHeapTerms::noTwoFreeSideBySide);
        sentence("what becomes free is one with its free neighbours",
                RunHeapTerms::oneWithItsFreeNeighbours);
        sentence("At first all is one free block.", RunHeapTerms::atFirstOneFreeBlock);
        sentence("A live block may be PINNED.", RunHeapTerms::pinnedOnlyIfItIsPinned);
        sentence("A block FOR w words, w from 1 on, has the least number of words that is above w "
                + "and a multiple of 4.", RunHeapTerms::blocksForWords);
        sentence("`NONE = -1`: Nothing there.", () -> due("NONE", RunHeap.NONE, -1));
    }

    private static void theTree() {
        sentence("its top is the largest one, the lowest of several; to its left is the tree of "
                + "the free blocks that lie lower, to its right that of those that lie higher",
                RunHeapTerms::treesOfAllShapes);
    }

    private static void theWindow() {
        sentence("a WINDOW is a stretch of whole blocks, none of them live and pinned",
                RunHeapTerms::windowsHoldNoPinnedOnes);
        sentence("from some block on", RunHeapTerms::windowsFromEachBlockOn);
        sentence("up to the first block's end by which it has w words at least",
                RunHeapTerms::windowsOfJustEnoughWords);
        sentence("Its live blocks are its VICTIMS.", RunHeapTerms::liveBlocksAreVictims);
        sentence("The advised window is the one with the fewest victims",
                RunHeapTerms::fewestVictims);
        sentence("of those whose victims can all be placed", RunHeapTerms::allCanBePlaced);
        sentence("can all be placed, the lowest of several", RunHeapTerms::lowestOfSeveralWindows);
    }

    private static void thePlaces() {
        sentence("the largest first", RunHeapTerms::largestFirst);
        sentence("equal ones by their addresses", RunHeapTerms::equalOnesByAddresses);
        sentence("each goes into the lowest free block", RunHeapTerms::intoTheLowest);
        sentence("outside the window", RunHeapTerms::outsideTheWindow);
        sentence("that has as many words as it, or more, left", RunHeapTerms::asManyWordsOrMore);
        sentence("at its low end; what is left of that block stays there to be used",
                RunHeapTerms::whatIsLeftIsUsed);
        sentence("THE MOVES are its victims with their new addresses, in the order in which they "
                + "are placed.", RunHeapTerms::movesInTheOrderOfPlacing);
    }

    private static void howLongAdviceIsThere() {
        sentence("They, and the advice, are there", RunHeapTerms::adviceStays);
        sentence("(also if there are no victims)", RunHeapTerms::adviceWithoutVictims);
        sentence("until a block is given, freed, grown, trimmed, pinned, unpinned",
                RunHeapTerms::adviceEnds);
        sentence("(also if that changes nothing)", RunHeapTerms::adviceEndsThoughNothingChanges);
        sentence("or other advice is asked for", RunHeapTerms::adviceEndsWithOtherAdvice);
    }

    private static void the512thCall() {
        RunHeap x = new RunHeap(4096);
        for (int i = 1; i <= 511; i++) {
            due("give(1), call " + i, x.give(1), 4 * i);
        }
        due("give(1), call 512", x.give(1), 2048);
        RunHeap y = new RunHeap(16);
        for (int i = 1; i <= 255; i++) {
            due("give(11)", y.give(11), 4);
            due("free(4)", y.free(4), true);
        }
        due("give(12), call 511", y.give(12), 0);
        due("give(11), call 512", y.give(11), 4);
    }

    private static int wholeGroups(int words) {
        int groups = 0;
        while (3 + 4 * groups + 4 <= words) {
            groups++;
        }
        return groups;
    }

    private static void blocksWithoutAGap() {
        for (int words = 16; words <= 60; words++) {
            int groups = wholeGroups(words);
            RunHeap x = new RunHeap(words);
            for (int i = 1; i <= groups; i++) {
                due("give(1), each behind the one before", x.give(1), 4 * i);
                due("sizeOf(" + 4 * i + ")", x.sizeOf(4 * i), 3);
                fill(x, 4 * i);
            }
            due("give(1) when all are given", x.give(1), 0);
            for (int i = 1; i <= groups; i++) {
                dueFilled(x, 4 * i, 4 * i, 0, 3);
            }
            int last = 4 * groups;
            due("free, the last group", x.free(last), true);
            due("freeAt(0), the last group", x.freeAt(0), last);
            due("branch, the last group's words", x.branch(last, 2), 4);
            dueAdvice(x, 4, last);
            due("grow over the last group", x.grow(last - 4, 8), false);
            due("grow up to the last group's end", x.grow(last - 4, 7), true);
            due("largest()", x.largest(), 0);
        }
    }

    private static void upToTheLastWholeGroup() {
        for (int words = 16; words <= 4096; words++) {
            int row = 4 * wholeGroups(words);
            RunHeap x = new RunHeap(words);
            due("largest() of " + words, x.largest(), row);
            due("advise, one word too many, of " + words, x.advise(row + 1), NONE);
            due("advise, all, of " + words, x.advise(row), 0);
            due("give, one word too many, of " + words, x.give(row), 0);
            due("give, all, of " + words, x.give(row - 1), 4);
            due("sizeOf(4) of " + words, x.sizeOf(4), row - 1);
            due("set, the last word, of " + words, x.set(4, row - 2, 9), 0);
            due("get, the last word, of " + words, x.get(4, row - 2), 9);
            due("count(0) of " + words, x.count(0), 0);
        }
    }

    private static void payloadsAreBehindTheFirstWord() {
        RunHeap x = rowOf("4 8 !12 -4");
        int[] addresses = {4, 8, 16};
        int[] payloads = {3, 7, 11};
        for (int address : addresses) {
            fill(x, address);
        }
        for (int k = 0; k < addresses.length; k++) {
            due("sizeOf(" + addresses[k] + ")", x.sizeOf(addresses[k]), payloads[k]);
            dueFilled(x, addresses[k], addresses[k], 0, payloads[k]);
        }
    }

    private static void addressesAreMultiplesOfFour() {
        RunHeap x = new RunHeap(100);
        int sum = 4;
        for (int words = 1; words <= 9; words++) {
            due("give(" + words + ")", x.give(words), sum);
            sum += words < 4 ? 4 : words < 8 ? 8 : 12;
        }
        due("freeAt(0)", x.freeAt(0), sum);
        for (int address = -5; address <= 105; address++) {
            if (address % 4 != 0 || address < 4) {
                due("sizeOf(" + address + ")", x.sizeOf(address), NONE);
            }
        }
    }

    private static void afterFree(String before, int address, String after) {
        RunHeap x = rowOf(before);
        due("free(" + address + ")", x.free(address), true);
        dueRow(x, after);
    }

    private static void afterTrim(String before, int address, int words, String after) {
        RunHeap x = rowOf(before);
        due("trim(" + address + ", " + words + ")", x.trim(address, words), true);
        dueRow(x, after);
    }

    private static void noTwoFreeSideBySide() {
        afterFree("4 8 4", 8, "4 -8 4");
        afterFree("-4 8 4", 8, "-12 4");
        afterFree("4 8 -4", 8, "4 -12");
        afterFree("-4 8 -4", 8, "-16");
        afterFree("12", 4, "-12");
        afterFree("8 4", 4, "-8 4");
        afterFree("8 4", 12, "8 -4");
        afterFree("4 -4 8 -4 4 -4", 12, "4 -16 4 -4");
        afterFree("!4 -4 !4 -8 !4", 12, "4 -16 4");
    }

    private static void oneWithItsFreeNeighbours() {
        afterTrim("12 4", 4, 3, "4 -8 4");
        afterTrim("12 -4", 4, 7, "8 -8");
        afterTrim("4 12", 8, 3, "4 4 -8");
        afterTrim("-4 12 -4", 8, 3, "-4 4 -12");
        // What an apply leaves, with a free neighbour on both sides and with victims side by side.
        RunHeap x = rowOf("!4 -8 !4 -4 8 -4 !4");
        dueAdvice(x, 16, 20, 24, 8);
        due("apply()", x.apply(), 1);
        dueRow(x, "4 8 4 -16 4");
        RunHeap y = rowOf("!4 4 8 !4 -4 !4 -8 !4");
        dueAdvice(y, 12, 8, 12, 32, 8, 24);
        due("apply()", y.apply(), 2);
        dueRow(y, "4 -12 4 4 4 8 4");
    }

    private static void atFirstOneFreeBlock() {
        for (int words : new int[] {16, 17, 18, 19, 100, 4095, 4096}) {
            RunHeap x = new RunHeap(words);
            due("count(0)", x.count(0), 1);
            due("count(2)", x.count(2), 0);
            due("freeAt(0)", x.freeAt(0), 4);
            due("largest()", x.largest(), x.count(1));
            dueRow(x, "-" + 4 * wholeGroups(words));
        }
    }

    private static void pinnedOnlyIfItIsPinned() {
        RunHeap x = rowOf("!4 4 -4 !4 -4");
        dueAdvice(x, 8, 8, 8, 20);
        due("pin(8, true)", x.pin(8, true), true);
        due("advise(8)", x.advise(8), NONE);
        due("free(8)", x.free(8), true);
        due("give(3) where a pinned one was", x.give(3), 8);
        dueAdvice(x, 8, 8, 8, 20);
        due("apply()", x.apply(), 1);
        due("free(20)", x.free(20), true);
        due("pin(16, false)", x.pin(16, false), true);
        dueAdvice(x, 12, 8, 16, 20);
        // One of several that are alike, and none but that one.
        for (int pinned = 4; pinned <= 16; pinned += 4) {
            RunHeap y = rowOf("4 4 4 4 !4 -4 !4 -4 !4 -4 !4 -4");
            dueAdvice(y, 16, 4, 4, 24, 8, 32, 12, 40, 16, 48);
            due("pin(" + pinned + ", true)", y.pin(pinned, true), true);
            due("advise(16)", y.advise(16), NONE);
            due("pin(" + pinned + ", false)", y.pin(pinned, false), true);
            dueAdvice(y, 16, 4, 4, 24, 8, 32, 12, 40, 16, 48);
        }
    }

    private static void blocksForWords() {
        due("give(0)", new RunHeap(16).give(0), 0);
        for (int w = 1; w <= 4091; w++) {
            int size = 4;
            while (size <= w) {
                size += 4;
            }
            int behind = size == 4092 ? NONE : 4 + size;
            RunHeap x = new RunHeap(4096);
            due("give(" + w + ")", x.give(w), 4);
            dueWords("give(" + w + ")", x, size, behind);
            due("free(4)", x.free(4), true);
            due("giveAligned(" + w + ", 4)", x.giveAligned(w, 4), 4);
            dueWords("giveAligned(" + w + ", 4)", x, size, behind);
            due("trim(4, 1)", x.trim(4, 1), true);
            due("grow(4, " + w + ")", x.grow(4, w), true);
            dueWords("grow(4, " + w + ")", x, size, behind);
            due("grow(4, 4091)", x.grow(4, 4091), true);
            due("trim(4, " + w + ")", x.trim(4, w), true);
            dueWords("trim(4, " + w + ")", x, size, behind);
        }
    }

    private static void dueWords(String after, RunHeap x, int size, int behind) {
        due("sizeOf(4) after " + after, x.sizeOf(4), size - 1);
        due("freeAt(0) after " + after, x.freeAt(0), behind);
    }

    /** All rows of five free blocks of 4, 8 or 12 words each, so that all kinds of ties come up. */
    private static void treesOfAllShapes() {
        for (int shape = 0; shape < 243; shape++) {
            StringBuilder blocks = new StringBuilder("4");
            List<int[]> free = new ArrayList<>();
            int address = 8;
            int rest = shape;
            for (int i = 0; i < 5; i++) {
                int size = 4 + 4 * (rest % 3);
                rest /= 3;
                blocks.append(" -").append(size).append(" 4");
                free.add(new int[] {address, size});
                address += size + 4;
            }
            RunHeap x = rowOf(blocks.toString());
            due("count(4) of " + blocks, x.count(4), dueTree(x, blocks.toString(), free));
        }
    }

    private static int topOf(List<int[]> free) {
        int top = 0;
        for (int i = 0; i < free.size(); i++) {
            top = free.get(i)[1] > free.get(top)[1] ? i : top;
        }
        return top;
    }

    private static int addressOfTop(List<int[]> free) {
        return free.isEmpty() ? 0 : free.get(topOf(free))[0];
    }

    /** Looks at the tree of these free blocks from its top down, and tells how deep it is. */
    private static int dueTree(RunHeap x, String blocks, List<int[]> free) {
        if (free.isEmpty()) {
            return 0;
        }
        int top = topOf(free);
        int address = free.get(top)[0];
        List<int[]> lower = free.subList(0, top);
        List<int[]> higher = free.subList(top + 1, free.size());
        String at = "branch(" + address + ", ";
        due(at + "0) of " + blocks, x.branch(address, 0), addressOfTop(lower));
        due(at + "1) of " + blocks, x.branch(address, 1), addressOfTop(higher));
        due(at + "2) of " + blocks, x.branch(address, 2), free.get(top)[1]);
        return 1 + Math.max(dueTree(x, blocks, lower), dueTree(x, blocks, higher));
    }

    private static void windowsHoldNoPinnedOnes() {
        // Over the pinned one at 8 there would be a window from 4 on, with one victim too.
        RunHeap x = rowOf("-4 !4 -4 8 -8");
        dueAdvice(x, 9, 12, 16, 24);
        due("pin(8, false)", x.pin(8, false), true);
        dueAdvice(x, 9, 4, 8, 24);
        // A pinned one as the first of a window, as its last, and as all of it.
        due("advise(8), the first", rowOf("!4 -4 !4 -4").advise(8), NONE);
        due("advise(8), the last", rowOf("-4 !4 4").advise(8), NONE);
        due("advise(4), all of it", rowOf("!4 !4 !4").advise(4), NONE);
        // The free block between two pinned ones is a window by itself.
        dueAdvice(rowOf("!4 -4 !4"), 4, 8);
    }

    private static void windowsFromEachBlockOn() {
        // From the first block on, which is live.
        dueAdvice(rowOf("8 -4 !4 -8"), 12, 4, 4, 20);
        // From the first block on, which is free.
        dueAdvice(rowOf("-4 8 !4 -8"), 12, 4, 8, 20);
        // From a live block in the middle on.
        dueAdvice(rowOf("!4 8 -4 !4 -8"), 12, 8, 8, 24);
        // From the last block on.
        dueAdvice(rowOf("4 4 -4"), 4, 12);
        // From the one before the last on, up to the last group's end.
        dueAdvice(rowOf("-8 !4 -4 8"), 12, 16, 20, 4);
    }

    private static void windowsOfJustEnoughWords() {
        RunHeap x = rowOf("!4 8 -4 4 !4 -8 !4 -8");
        dueAdvice(x, 8, 28);
        dueAdvice(x, 9, 8, 8, 28);
        dueAdvice(x, 12, 8, 8, 28);
        dueAdvice(x, 13, 8, 8, 28, 20, 40);
        dueAdvice(x, 16, 8, 8, 28, 20, 40);
        due("advise(17)", x.advise(17), NONE);
        // The whole row and one word more.
        RunHeap all = new RunHeap(4096);
        dueAdvice(all, 4091, 4);
        dueAdvice(all, 4092, 4);
        due("advise(4093)", all.advise(4093), NONE);
    }

    private static void liveBlocksAreVictims() {
        RunHeap x = rowOf("!4 -4 4 -4 4 -4 !4 -8");
        dueAdvice(x, 8, 32);
        dueAdvice(x, 12, 8, 12, 24);
        dueAdvice(x, 13, 8, 12, 24, 20, 32);
        dueAdvice(x, 20, 8, 12, 32, 20, 36);
        due("advise(21)", x.advise(21), NONE);
        // The first of a window, its last, and all of it.
        dueAdvice(rowOf("8 -4 !4 -8"), 12, 4, 4, 20);
        dueAdvice(rowOf("-8 !4 -4 8"), 12, 16, 20, 4);
        dueAdvice(rowOf("!4 4 4 4 !4 -8 !4 -4"), 9, 8, 8, 24, 12, 28, 16, 36);
    }

    private static void fewestVictims() {
        // From 4 on there are two victims, from 20 on one.
        RunHeap x = rowOf("4 4 -4 !4 8 -4 !4 -8");
        dueAdvice(x, 12, 20, 20, 36);
        // From 4 on there is one, from 20 on none.
        dueAdvice(rowOf("8 -4 !4 -8"), 8, 20);
    }

    private static void allCanBePlaced() {
        // From 20 on there is one victim, but no place for its 8 words.
        RunHeap x = rowOf("4 4 -4 !4 8 -4 !4 -4");
        dueAdvice(x, 12, 4, 4, 28, 8, 36);
        // The last victim of each window has no place.
        RunHeap y = rowOf("!4 4 4 4 !4 -4 !4 -4 !4");
        due("advise(12)", y.advise(12), NONE);
        dueAdvice(y, 8, 8, 8, 24, 12, 32);
        due("advise(8) in a full heap", rowOf("4 4 4").advise(8), NONE);
        // A place that earlier advice had found is there no more.
        RunHeap z = rowOf("!4 8 -12 !4 -4 !4 -4 !4 4 -16");
        dueAdvice(z, 20, 8, 8, 52);
        due("grow(48, 19)", z.grow(48, 19), true);
        due("advise(20)", z.advise(20), NONE);
    }

    private static void lowestOfSeveralWindows() {
        dueAdvice(rowOf("4 -4 !4 -4 4 !4 -4"), 8, 4, 4, 16);
        dueAdvice(rowOf("4 -4 4 -4"), 4, 8);
        dueAdvice(rowOf("!4 4 4 4 4 !4 -4 !4 -4"), 8, 8, 8, 28, 12, 36);
    }

    private static void largestFirst() {
        RunHeap x = rowOf("!4 4 8 12 !4 -8 !4 -12 !4 -4");
        dueAdvice(x, 24, 8, 20, 48, 12, 36, 8, 64);
        // By addresses the one at 8 would take the place that the one at 12 needs.
        dueAdvice(rowOf("!4 4 8 !4 -8 !4 -4"), 12, 8, 12, 24, 8, 36);
    }

    private static void equalOnesByAddresses() {
        RunHeap x = rowOf("!4 4 8 4 8 !4 -16 !4 -8");
        dueAdvice(x, 24, 8, 12, 36, 24, 44, 8, 56, 20, 60);
        dueAdvice(x, 17, 12, 12, 36, 24, 44, 20, 56);
    }

    private static void intoTheLowest() {
        // There are places below the window and above it, and larger and better fitting ones.
        dueAdvice(rowOf("-12 !4 -4 12 !4 -12"), 16, 20, 24, 4);
        dueAdvice(rowOf("!4 -8 !4 -4 !4 4 8"), 12, 28, 32, 8, 28, 20);
        dueAdvice(rowOf("!4 4 -8 !4 -8 !4 -4"), 12, 8, 8, 24);
    }

    private static void outsideTheWindow() {
        due("advise(16), a place only inside", rowOf("!4 -8 8 !4 -4").advise(16), NONE);
        dueAdvice(rowOf("!4 -8 8 !4 -8"), 16, 8, 16, 28);
        // The free block directly before the window and the one directly behind it are outside.
        dueAdvice(rowOf("-8 8 -4 !4"), 12, 12, 12, 4);
        dueAdvice(rowOf("!4 -4 8 -8 !4"), 12, 8, 12, 20);
        // What a victim leaves is no place for the next.
        due("advise(16), a place only where another was",
                rowOf("!4 8 8 !4 -8").advise(16), NONE);
    }

    private static void asManyWordsOrMore() {
        dueAdvice(rowOf("-4 !4 12 4 !4 -12"), 16, 12, 12, 32, 24, 4);
        due("advise(16), four words too few", rowOf("-4 !4 12 4 !4 -8").advise(16), NONE);
        dueAdvice(rowOf("!4 8 8 !4 -12 !4 -8"), 16, 8, 8, 28, 16, 44);
        due("advise(16), four words too few are left",
                rowOf("!4 8 8 !4 -12 !4 -4").advise(16), NONE);
    }

    private static void whatIsLeftIsUsed() {
        RunHeap x = rowOf("!4 8 4 4 !4 -12 !4 -8");
        dueAdvice(x, 16, 8, 8, 28, 16, 36, 20, 44);
        due("apply()", x.apply(), 3);
        dueRow(x, "4 -16 4 8 4 4 4 -4");
        due("give(3), what was free from 8 on", x.give(3), 8);
        due("give(15)", x.give(15), 0);
    }

    private static void movesInTheOrderOfPlacing() {
        RunHeap x = rowOf("!4 4 12 8 12 4 !4 -36 !4 -4");
        dueAdvice(x, 40, 8, 12, 52, 32, 64, 24, 76, 8, 84, 44, 92);
        dueThrow("move(-1, 0)", IndexOutOfBoundsException.class, () -> x.move(-1, 0));
    }

    /** With advice for one move; there is also a pinned block, and room to give and grow. */
    private static RunHeap advised() {
        RunHeap x = rowOf("!4 -8 8 -4 !4 -12 8");
        dueAdvice(x, 16, 8, 16, 32);
        return x;
    }

    private static void dueAdvised(String after, RunHeap x) {
        due("window() after " + after, x.window(), 8);
        due("count(3) after " + after, x.count(3), 1);
        due("move(0, 0) after " + after, answerOf(() -> x.move(0, 0)), "16");
        due("move(0, 1) after " + after, answerOf(() -> x.move(0, 1)), "32");
    }

    private static void adviceStays() {
        RunHeap x = advised();
        due("get(16, 0)", x.get(16, 0), 0);
        dueAdvised("get", x);
        due("set(16, 0, 7)", x.set(16, 0, 7), 0);
        dueAdvised("set", x);
        due("sizeOf(16)", x.sizeOf(16), 7);
        due("largest()", x.largest(), 12);
        due("count(4)", x.count(4), 3);
        due("freeAt(0)", x.freeAt(0), 8);
        due("branch(8, 1)", x.branch(8, 1), 24);
        due("moved(16)", x.moved(16), NONE);
        dueAdvised("looking", x);
        due("apply()", x.apply(), 1);
        due("get(32, 0), set after the advice", x.get(32, 0), 7);
    }

    private static void adviceWithoutVictims() {
        RunHeap x = rowOf("4 -8 4");
        dueAdvice(x, 8, 8);
        due("set(4, 0, 7)", x.set(4, 0, 7), 0);
        due("give(8)", x.give(8), 0);
        due("window(), still there", x.window(), 8);
        due("apply()", x.apply(), 0);
        dueNoAdvice("apply()", x);
        dueAdvice(x, 5, 8);
        due("pin(4, false)", x.pin(4, false), true);
        dueNoAdvice("pin", x);
        RunHeap empty = new RunHeap(16);
        dueAdvice(empty, 12, 4);
        due("apply() without a live block", empty.apply(), 0);
        dueNoAdvice("apply()", empty);
    }

    private static void adviceEnds() {
        RunHeap x = advised();
        due("give(1)", x.give(1), 8);
        dueNoAdvice("give", x);
        x = advised();
        due("giveAligned(1, 32)", x.giveAligned(1, 32), 32);
        dueNoAdvice("giveAligned", x);
        x = advised();
        due("free(44)", x.free(44), true);
        dueNoAdvice("free", x);
        x = advised();
        due("grow(16, 8)", x.grow(16, 8), true);
        dueNoAdvice("grow", x);
        x = advised();
        due("trim(44, 3)", x.trim(44, 3), true);
        dueNoAdvice("trim", x);
        x = advised();
        due("pin(44, true)", x.pin(44, true), true);
        dueNoAdvice("pin", x);
        x = advised();
        due("pin(4, false)", x.pin(4, false), true);
        dueNoAdvice("unpin", x);
    }

    private static void adviceEndsThoughNothingChanges() {
        RunHeap x = advised();
        due("pin(4, true)", x.pin(4, true), true);
        dueNoAdvice("pinning a pinned one", x);
        x = advised();
        due("pin(16, false)", x.pin(16, false), true);
        dueNoAdvice("unpinning one that is not pinned", x);
        x = advised();
        due("grow(16, 7)", x.grow(16, 7), true);
        dueNoAdvice("growing one that is large enough", x);
        x = advised();
        due("grow(16, 1)", x.grow(16, 1), true);
        dueNoAdvice("growing one that is larger", x);
        x = advised();
        due("trim(16, 4)", x.trim(16, 4), true);
        dueNoAdvice("trimming one that is of that size already", x);
    }

    private static void adviceEndsWithOtherAdvice() {
        RunHeap x = advised();
        dueAdvice(x, 1, 8);
        x = advised();
        dueAdvice(x, 12, 32);
        x = advised();
        due("advise(25)", x.advise(25), NONE);
        dueNoAdvice("other advice that there is none of", x);
    }
}
