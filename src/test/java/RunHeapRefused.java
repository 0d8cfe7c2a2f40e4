import java.util.ArrayList;
import java.util.List;

/**
 * "A refused call (false, 0, NONE, one that throws) changes nothing else.": of two heaps made alike
 * one hears a refused call, and then both answer all questions alike, and go on alike.
 */
public final class RunHeapRefused extends SentenceTest {

    /** So many questions of one object leave room for the calls that made it. */
    private static final int QUESTIONS = 250;
    private static final int WORDS = 64;
    private static final int[] ENDS = {LEAST, LEAST + 4, -4, -1, 0, 1, 2, 3, MOST - 3, MOST};

    private interface Maker {
        RunHeap make();
    }

    private interface Question {
        int answer(RunHeap x);
    }

    public static void main(String[] args) {
        sentence("A refused call (false, 0, NONE, one that throws) changes nothing else.",
                RunHeapRefused::looksThatFindNothing);
        sentence("0 if there is none, or words is below 1.", RunHeapRefused::give);
        sentence("0 if there is none, words is below 1, or a is not 4, 8, 16, .. 1024.",
                RunHeapRefused::giveAligned);
        sentence("The block is free: true; false if none that is live has that address.",
                RunHeapRefused::free);
        sentence("False if none that is live has that address, words is below 1, or the free block "
                + "directly behind it is too small, or there is none.", RunHeapRefused::grow);
        sentence("False if none that is live has that address, words is below 1, or it would be "
                + "larger.", RunHeapRefused::trim);
        sentence("A block is pinned, or not: true; false if none that is live has that address.",
                RunHeapRefused::pin);
        sentence("Word i of the payload, from 0 on. NoSuchElementException if no live block has "
                + "that address; IndexOutOfBoundsException if its payload has no such word.",
                RunHeapRefused::get);
        sentence("the one before. NoSuchElementException if no live block has that address; "
                + "IndexOutOfBoundsException if its payload has no such word.",
                RunHeapRefused::set);
        sentence("NoSuchElementException if no free block has that address; "
                + "IllegalArgumentException for another side.", RunHeapRefused::branch);
        sentence("NONE (and no moves are there) if there is no such window, words is below 1, or "
                + "there are more than 128 live blocks.", RunHeapRefused::advise);
        sentence("IndexOutOfBoundsException if there is none such; IllegalArgumentException for "
                + "another what.", RunHeapRefused::move);
        sentence("how many; NONE if no advice is there.", RunHeapRefused::apply);
        end();
    }

    /** An apply has moved 12 to 44; 28 is pinned; all payloads hold something. */
    private static RunHeap busy() {
        RunHeap x = rowOf("-8 8 4 -4 !4 -4 8 -8 4 -4");
        for (int address : new int[] {12, 20, 28, 36, 52}) {
            fill(x, address);
        }
        dueAdvice(x, 16, 4, 12, 44);
        due("apply()", x.apply(), 1);
        due("give(7)", x.give(7), 4);
        fill(x, 4);
        dueRow(x, "8 -8 4 -4 4 -4 8 8 4 -4");
        return x;
    }

    private static RunHeap busyWithAdvice() {
        RunHeap x = busy();
        dueAdvice(x, 16, 12, 20, 32);
        return x;
    }

    private static RunHeap full() {
        RunHeap x = rowOf("4 !8 4 12");
        for (int address : new int[] {4, 8, 16, 20}) {
            fill(x, address);
        }
        return x;
    }

    private static RunHeap empty() {
        return new RunHeap(16);
    }

    private static RunHeap emptyWithAdvice() {
        RunHeap x = empty();
        due("advise(5)", x.advise(5), 0);
        return x;
    }

    private static RunHeap crowded() {
        RunHeap x = new RunHeap(600);
        for (int i = 1; i <= 129; i++) {
            due("give(3)", x.give(3), 4 * i);
        }
        return x;
    }

    private static RunHeap crowdedAndRefused() {
        RunHeap x = crowded();
        due("advise(1)", x.advise(1), NONE);
        return x;
    }

    /** What shows a heap of up to so many words. */
    private static List<Question> questions(int words) {
        List<Question> asked = new ArrayList<>();
        asked.add(x -> x.largest());
        asked.add(x -> x.window());
        for (int k = 0; k < 5; k++) {
            int what = k;
            asked.add(x -> x.count(what));
            asked.add(x -> x.move(what, 0));
            asked.add(x -> x.move(what, 1));
        }
        for (int k = 0; k < 10; k++) {
            int at = k;
            asked.add(x -> x.freeAt(at));
        }
        for (int k = 4; k <= words; k += 4) {
            int address = k;
            asked.add(x -> x.moved(address));
            asked.add(x -> x.sizeOf(address));
            asked.add(x -> x.branch(address, 0));
            asked.add(x -> x.branch(address, 1));
            asked.add(x -> x.branch(address, 2));
            for (int i = 0; i < 12; i++) {
                int word = i;
                asked.add(x -> x.get(address, word));
            }
        }
        return asked;
    }

    /** What the two do next: pins, and words behind the payloads, show only in what is done. */
    private static List<Question> whatComes() {
        List<Question> asked = new ArrayList<>();
        asked.add(x -> x.apply());
        for (int words = 1; words <= 40; words += 3) {
            int wanted = words;
            asked.add(x -> x.advise(wanted));
            asked.add(x -> x.window());
            asked.add(x -> x.move(0, 0));
            asked.add(x -> x.move(0, 1));
        }
        for (int k = 4; k <= 64; k += 4) {
            int address = k;
            asked.add(x -> x.grow(address, 6) ? 1 : 0);
            asked.add(x -> x.get(address, 6));
        }
        for (int k = 0; k < 10; k++) {
            asked.add(x -> x.give(3));
            asked.add(x -> x.count(2));
        }
        return asked;
    }

    private static void dueAlike(String call, Maker one, Maker other, List<Question> asked) {
        for (int from = 0; from < asked.size(); from += QUESTIONS) {
            RunHeap x = one.make();
            RunHeap y = other.make();
            for (int k = from; k < Math.min(from + QUESTIONS, asked.size()); k++) {
                Question question = asked.get(k);
                due("question " + k + " after " + call, answerOf(() -> question.answer(x)),
                        answerOf(() -> question.answer(y)));
            }
        }
    }

    /** The call is refused by that answer, and leaves a heap that is like the second one. */
    private static void dueRefused(String call, String answer, Maker made, Maker like,
            Question refused) {
        Maker after = () -> {
            RunHeap x = made.make();
            due(call, answerOf(() -> refused.answer(x)), answer);
            return x;
        };
        dueAlike(call, after, like, questions(WORDS));
        dueAlike(call, after, like, whatComes());
    }

    private static void dueRefused(String call, String answer, Maker made, Question refused) {
        dueRefused(call, answer, made, made, refused);
    }

    private static void dueRefusedByAll(String call, String answer, Question refused) {
        dueRefused(call + ", busy", answer, RunHeapRefused::busy, refused);
        dueRefused(call + ", busy, advised", answer, RunHeapRefused::busyWithAdvice, refused);
        dueRefused(call + ", full", answer, RunHeapRefused::full, refused);
        dueRefused(call + ", empty, advised", answer, RunHeapRefused::emptyWithAdvice, refused);
    }

    private static void looksThatFindNothing() {
        for (int end : ENDS) {
            dueRefusedByAll("sizeOf(" + end + ")", "-1", x -> x.sizeOf(end));
            dueRefusedByAll("moved(" + end + ")", "-1", x -> x.moved(end));
        }
        for (int end : new int[] {LEAST, -1, 7, MOST}) {
            dueRefusedByAll("count(" + end + ")", "-1", x -> x.count(end));
            dueRefusedByAll("freeAt(" + end + ")", "-1", x -> x.freeAt(end));
        }
        dueRefused("largest()", "0", RunHeapRefused::full, x -> x.largest());
        dueRefused("window()", "-1", RunHeapRefused::busy, x -> x.window());
        dueRefused("window()", "-1", RunHeapRefused::full, x -> x.window());
        dueRefused("branch(4, 0)", "0", RunHeapRefused::emptyWithAdvice, x -> x.branch(4, 0));
        dueRefused("branch(4, 1)", "0", RunHeapRefused::emptyWithAdvice, x -> x.branch(4, 1));
    }

    private static void give() {
        for (int words : new int[] {LEAST, -4, -1, 0, 21, 24, 4096, MOST - 3, MOST}) {
            dueRefusedByAll("give(" + words + ")", "0", x -> x.give(words));
        }
        dueRefused("give(8)", "0", RunHeapRefused::busyWithAdvice, x -> x.give(8));
        dueRefused("give(12)", "0", RunHeapRefused::emptyWithAdvice, x -> x.give(12));
        dueRefused("give(1)", "0", RunHeapRefused::full, x -> x.give(1));
    }

    private static void giveAligned() {
        for (int words : new int[] {LEAST, -1, 0, 24, MOST - 3, MOST}) {
            dueRefusedByAll("giveAligned(" + words + ", 4)", "0", x -> x.giveAligned(words, 4));
            dueRefusedByAll("giveAligned(" + words + ", 5)", "0", x -> x.giveAligned(words, 5));
        }
        for (int a : new int[] {LEAST, -8, -4, -1, 0, 1, 2, 3, 12, 128, 1024, 2048, MOST}) {
            dueRefusedByAll("giveAligned(1, " + a + ")", "0", x -> x.giveAligned(1, a));
        }
        dueRefused("giveAligned(1, 4)", "0", RunHeapRefused::full, x -> x.giveAligned(1, 4));
        dueRefused("giveAligned(8, 8)", "0", RunHeapRefused::emptyWithAdvice,
                x -> x.giveAligned(8, 8));
    }

    private static void free() {
        for (int address : ENDS) {
            dueRefusedByAll("free(" + address + ")", "0", x -> x.free(address) ? 1 : 0);
        }
        // Inside a live block, at a free one, where a moved one was.
        for (int address : new int[] {8, 12, 24, 40, 48, 56}) {
            dueRefused("free(" + address + ")", "0", RunHeapRefused::busyWithAdvice,
                    x -> x.free(address) ? 1 : 0);
        }
        dueRefused("free(4)", "0", RunHeapRefused::emptyWithAdvice, x -> x.free(4) ? 1 : 0);
    }

    private static void grow() {
        for (int address : ENDS) {
            dueRefusedByAll("grow(" + address + ", 1)", "0", x -> x.grow(address, 1) ? 1 : 0);
        }
        for (int words : new int[] {LEAST, -1, 0, 28, 4096, MOST - 3, MOST}) {
            dueRefusedByAll("grow(4, " + words + ")", "0", x -> x.grow(4, words) ? 1 : 0);
        }
        // A live block behind; a free one that is too small; a free block; the last block.
        dueRefused("grow(36, 8)", "0", RunHeapRefused::busyWithAdvice, x -> x.grow(36, 8) ? 1 : 0);
        dueRefused("grow(4, 16)", "0", RunHeapRefused::busyWithAdvice, x -> x.grow(4, 16) ? 1 : 0);
        dueRefused("grow(12, 1)", "0", RunHeapRefused::busyWithAdvice, x -> x.grow(12, 1) ? 1 : 0);
        dueRefused("grow(20, 12)", "0", RunHeapRefused::full, x -> x.grow(20, 12) ? 1 : 0);
    }

    private static void trim() {
        for (int address : ENDS) {
            dueRefusedByAll("trim(" + address + ", 1)", "0", x -> x.trim(address, 1) ? 1 : 0);
        }
        for (int words : new int[] {LEAST, -1, 0, 8, 4096, MOST - 3, MOST}) {
            dueRefusedByAll("trim(4, " + words + ")", "0", x -> x.trim(4, words) ? 1 : 0);
        }
        dueRefused("trim(12, 1)", "0", RunHeapRefused::busyWithAdvice, x -> x.trim(12, 1) ? 1 : 0);
        dueRefused("trim(20, 12)", "0", RunHeapRefused::full, x -> x.trim(20, 12) ? 1 : 0);
    }

    private static void pin() {
        for (int address : ENDS) {
            dueRefusedByAll("pin(" + address + ", true)", "0", x -> x.pin(address, true) ? 1 : 0);
            dueRefusedByAll("pin(" + address + ", false)", "0",
                    x -> x.pin(address, false) ? 1 : 0);
        }
        for (int address : new int[] {8, 12, 24, 40, 48, 56}) {
            dueRefused("pin(" + address + ", true)", "0", RunHeapRefused::busyWithAdvice,
                    x -> x.pin(address, true) ? 1 : 0);
        }
        dueRefused("pin(4, true)", "0", RunHeapRefused::emptyWithAdvice,
                x -> x.pin(4, true) ? 1 : 0);
    }

    private static void get() {
        for (int address : ENDS) {
            dueRefusedByAll("get(" + address + ", 0)", "throws.NoSuchElementException",
                    x -> x.get(address, 0));
        }
        for (int i : new int[] {LEAST, -1, 7, 8, MOST}) {
            dueRefused("get(4, " + i + ")", "throws.IndexOutOfBoundsException",
                    RunHeapRefused::busyWithAdvice, x -> x.get(4, i));
        }
    }

    private static void set() {
        for (int address : ENDS) {
            dueRefusedByAll("set(" + address + ", 0, 9)", "throws.NoSuchElementException",
                    x -> x.set(address, 0, 9));
        }
        for (int address : new int[] {8, 12, 24, 48, 56}) {
            dueRefused("set(" + address + ", 0, 9)", "throws.NoSuchElementException",
                    RunHeapRefused::busyWithAdvice, x -> x.set(address, 0, 9));
        }
        for (int i : new int[] {LEAST, -1, 7, 8, MOST}) {
            dueRefused("set(36, " + i + ", 9)", "throws.IndexOutOfBoundsException",
                    RunHeapRefused::busyWithAdvice, x -> x.set(36, i, 9));
        }
    }

    private static void branch() {
        for (int address : ENDS) {
            dueRefusedByAll("branch(" + address + ", 0)", "throws.NoSuchElementException",
                    x -> x.branch(address, 0));
        }
        for (int side : new int[] {LEAST, -1, 3, MOST}) {
            dueRefused("branch(32, " + side + ")", "throws.IllegalArgumentException",
                    RunHeapRefused::busyWithAdvice, x -> x.branch(32, side));
        }
    }

    /** It is as if no advice had been asked for: the advice before is gone, all else stays. */
    private static void advise() {
        for (int words : new int[] {LEAST, -1, 0, 60, 4096, 4097, MOST - 3, MOST}) {
            dueRefused("advise(" + words + ")", "-1", RunHeapRefused::busyWithAdvice,
                    RunHeapRefused::busy, x -> x.advise(words));
            dueRefused("advise(" + words + ")", "-1", RunHeapRefused::emptyWithAdvice,
                    RunHeapRefused::empty, x -> x.advise(words));
            dueRefused("advise(" + words + ")", "-1", RunHeapRefused::full, x -> x.advise(words));
        }
        dueRefused("advise(1)", "-1", RunHeapRefused::full, x -> x.advise(1));
        dueRefused("advise(13)", "-1", RunHeapRefused::emptyWithAdvice, RunHeapRefused::empty,
                x -> x.advise(13));
        dueRefused("advise(1) with 129", "-1", RunHeapRefused::crowded, x -> x.advise(1));
        dueAlike("advise(1) with 129", RunHeapRefused::crowdedAndRefused, RunHeapRefused::crowded,
                questions(600));
    }

    private static void move() {
        for (int i : new int[] {LEAST, -1, 1, 2, MOST}) {
            dueRefusedByAll("move(" + i + ", 0)", "throws.IndexOutOfBoundsException",
                    x -> x.move(i, 0));
        }
        for (int what : new int[] {LEAST, -1, 2, MOST}) {
            dueRefused("move(0, " + what + ")", "throws.IllegalArgumentException",
                    RunHeapRefused::busyWithAdvice, x -> x.move(0, what));
        }
    }

    private static void apply() {
        dueRefused("apply()", "-1", RunHeapRefused::busy, x -> x.apply());
        dueRefused("apply()", "-1", RunHeapRefused::full, x -> x.apply());
        dueRefused("apply()", "-1", RunHeapRefused::empty, x -> x.apply());
    }
}
