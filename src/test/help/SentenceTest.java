import java.io.IOException;
import java.nio.file.Files;
import java.nio.file.Path;
import java.util.HashSet;
import java.util.Set;

/** What the tests by sentences share: each test names the sentence of the document it holds to. */
abstract class SentenceTest {

    static final int NONE = RunHeap.NONE;
    static final int LEAST = Integer.MIN_VALUE;
    static final int MOST = Integer.MAX_VALUE;

    private static final String DOCUMENT = readDocument();
    private static final Set<String> NAMED = new HashSet<>();
    private static String named = "";
    private static int wrong = 0;

    interface Call {
        int answer();
    }

    private static String readDocument() {
        try {
            return Files.readString(Path.of("../shared/DOC.md")).replaceAll("\\s+", " ");
        } catch (IOException e) {
            return "";
        }
    }

    /** A test that names words which do not stand in the document holds to nothing. */
    static void sentence(String words, Runnable test) {
        named = words;
        if (!DOCUMENT.contains(words)) {
            fault("these words do not stand in the document");
        }
        if (!NAMED.add(words)) {
            fault("another test names these words");
        }
        try {
            test.run();
        } catch (RuntimeException e) {
            fault("ended with " + e);
        }
    }

    static void end() {
        System.out.println(NAMED.size() + " sentences, " + wrong + " faults");
        if (wrong != 0 || NAMED.isEmpty()) {
            System.exit(1);
        }
    }

    static int faults() {
        return wrong;
    }

    static void fault(String text) {
        wrong++;
        System.out.println("\"" + named + "\": " + text);
    }

    static void due(String call, int got, int want) {
        if (got != want) {
            fault(call + " answered " + got + ", due is " + want);
        }
    }

    static void due(String call, boolean got, boolean want) {
        if (got != want) {
            fault(call + " answered " + got + ", due is " + want);
        }
    }

    static void due(String call, String got, String want) {
        if (!got.equals(want)) {
            fault(call + ": " + got + ", due is " + want);
        }
    }

    static String answerOf(Call made) {
        try {
            return String.valueOf(made.answer());
        } catch (RuntimeException e) {
            return "throws." + e.getClass().getSimpleName();
        }
    }

    static void dueThrow(String call, Class<? extends RuntimeException> want, Call made) {
        due(call, answerOf(made), "throws." + want.getSimpleName());
    }

    static int wordsOf(String block) {
        return Integer.parseInt(block.replaceAll("[-!]", ""));
    }

    /**
     * A heap whose row is these blocks and nothing behind them, each told by its words: 8 is live,
     * -8 is free, !8 is live and pinned.
     */
    static RunHeap rowOf(String blocks) {
        String[] each = blocks.split(" ");
        int words = 0;
        for (String block : each) {
            words += wordsOf(block);
        }
        RunHeap x = new RunHeap(words + 3);
        int address = 4;
        for (String block : each) {
            due("give(" + (wordsOf(block) - 1) + ")", x.give(wordsOf(block) - 1), address);
            address += wordsOf(block);
        }
        freeAndPin(x, each);
        return x;
    }

    /** Of blocks that are all live, those told by - are freed and those told by ! are pinned. */
    static void freeAndPin(RunHeap x, String[] blocks) {
        int address = 4;
        for (String block : blocks) {
            if (block.startsWith("-")) {
                due("free(" + address + ")", x.free(address), true);
            }
            if (block.startsWith("!")) {
                due("pin(" + address + ", true)", x.pin(address, true), true);
            }
            address += wordsOf(block);
        }
    }

    /** The row as it shows from outside, told as in rowOf but without the pins. */
    static void dueRow(RunHeap x, String blocks) {
        StringBuilder told = new StringBuilder();
        int end = x.count(1) + 4;
        int address = 4;
        for (int left = x.count(0) + x.count(2); left > 0; left--) {
            int at = address;
            int live = x.sizeOf(at);
            String free = live == NONE ? answerOf(() -> x.branch(at, 2)) : "";
            if (free.startsWith("throws")) {
                told.append(" nothing-at-").append(at);
                break;
            }
            int words = live == NONE ? Integer.parseInt(free) : live + 1;
            told.append(live == NONE ? " -" : " ").append(words);
            end += live == NONE ? 0 : words;
            address += words;
        }
        due("the row", told.toString().trim(), blocks.replace("!", ""));
        due("the row's end", address, end);
    }

    static void dueMoves(RunHeap x, int... fromAndTo) {
        int moves = fromAndTo.length / 2;
        due("count(3)", x.count(3), moves);
        for (int i = 0; i < moves; i++) {
            int at = i;
            due("move(" + i + ", 0)", answerOf(() -> x.move(at, 0)), "" + fromAndTo[2 * i]);
            due("move(" + i + ", 1)", answerOf(() -> x.move(at, 1)), "" + fromAndTo[2 * i + 1]);
        }
        dueThrow("move(" + moves + ", 0)", IndexOutOfBoundsException.class, () -> x.move(moves, 0));
    }

    static void dueAdvice(RunHeap x, int words, int window, int... fromAndTo) {
        due("advise(" + words + ")", x.advise(words), fromAndTo.length / 2);
        due("window() for " + words, x.window(), window);
        dueMoves(x, fromAndTo);
    }

    static void dueNoAdvice(String after, RunHeap x) {
        due("window() after " + after, x.window(), NONE);
        due("count(3) after " + after, x.count(3), 0);
        dueThrow("move(0, 0) after " + after, IndexOutOfBoundsException.class, () -> x.move(0, 0));
        due("apply() after " + after, x.apply(), NONE);
    }

    /** What tells the block and the word. */
    static int markOf(int address, int i) {
        return 10000 * address + i + 1;
    }

    /** Writes its mark into every word of a payload. */
    static void fill(RunHeap x, int address) {
        for (int i = 0; i < x.sizeOf(address); i++) {
            x.set(address, i, markOf(address, i));
        }
    }

    /** The words from one on to below another are what fill wrote when the block lay there. */
    static void dueFilled(RunHeap x, int address, int filledAt, int from, int to) {
        for (int i = from; i < to; i++) {
            int at = i;
            due("get(" + address + ", " + i + ")", answerOf(() -> x.get(address, at)),
                    "" + markOf(filledAt, i));
        }
    }

    static void dueZeros(RunHeap x, int address, int from, int to) {
        for (int i = from; i < to; i++) {
            int at = i;
            due("get(" + address + ", " + i + ")", answerOf(() -> x.get(address, at)), "0");
        }
    }
}
