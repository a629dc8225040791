import java.util.ArrayList;
import java.util.List;
import java.util.function.ToIntFunction;

/**
 * A call that is refused changes nothing, and is no action: after each of them, an object answers everything as one
 * that was not asked. Calls with several errors at once are among them, and answer the error that the document lists
 * first.
 */
public final class RefusedCallsTest {
    private static final int NO_SUCH_INDEX = CellTransactions.NO_SUCH_INDEX;
    private static final int BAD_VALUE = CellTransactions.BAD_VALUE;
    private static final int NOT_POSSIBLE = CellTransactions.NOT_POSSIBLE;
    private static final int FULL = CellTransactions.FULL;
    private static final int[] NO_INDEX_OF_SIX = {-1, 6, 7, 64, Integer.MIN_VALUE, Integer.MAX_VALUE};
    private static final int[] NO_INDEX_OF_THREE = {-1, 3, 4, 32, Integer.MIN_VALUE, Integer.MAX_VALUE};
    private static final int[] NO_INDEX_OF_TWO = {-1, 2, 3, 33, Integer.MIN_VALUE, Integer.MAX_VALUE};
    private static final int[] NO_VALUES = {-100, 100, -101, 256, Integer.MIN_VALUE, Integer.MAX_VALUE};

    private static String object;
    private static List<Integer> unasked;

    public static void main(String[] args) {
        for (int kind = 0; kind < 3; kind++) {
            object = new String[] {"new object", "busy object", "full object"}[kind];
            unasked = allAnswers(make(kind));
            textCalls(kind);
            readingCalls(kind);
            stepsAndRuns(kind);
            setCellCalls(kind);
            addInvariantCalls(kind);
            otherActions(kind);
            scripts(kind);
            observeCalls(kind);
            slots(kind);
        }
        Check.finish("RefusedCallsTest");
    }

    // ---- three objects to ask

    private static CellTransactions make(int kind) {
        return kind == 0 ? new CellTransactions() : kind == 1 ? busy() : full();
    }

    /** Thread 0 is within a nested block of a second branch, 1 waits, 2 has failed; slot 1 is filled. */
    private static CellTransactions busy() {
        CellTransactions x = Check.loaded("M123456t2r0w1(!|{r2+9w3-1?0})+0.t1r5!.t1x.");
        x.append('x');
        x.step(0);
        x.save(1);
        x.addInvariant(0, 1, -50);
        x.run(1);
        x.run(2);
        x.setCell(4, -99);
        Check.goOn(x, 0, 6);
        x.observe(2, 3);
        Check.due("state(0)", x.state(0), CellTransactions.READY);
        Check.due("openBlocks(0)", x.openBlocks(0), 2);
        Check.due("state(1)", x.state(1), CellTransactions.WAITING);
        Check.due("state(2)", x.state(2), CellTransactions.FAILED);
        return x;
    }

    /** Text, invariants, remembered states and observations have all come to their most; slot 0 is filled. */
    private static CellTransactions full() {
        CellTransactions x = Check.loaded("M000000t1.t2r0+1w0.t1r1?1w2.");
        Check.type(x, "!".repeat(60 - 28));
        x.run(0);
        x.save(0);
        for (int k = 0; k < 4; k++) {
            x.addInvariant(k, k + 1, -9);
        }
        for (int k = 0; k < 12; k++) {
            x.setCell(k % 6, k);
        }
        Check.goOn(x, 1, 2);
        for (int k = 0; k < 4; k++) {
            x.observe(k + 2, k + 8);
        }
        Check.due("state(0)", x.state(0), CellTransactions.DONE);
        return x;
    }

    // ---- all that can be asked of an object

    private static void reads(CellTransactions x, List<Integer> answers) {
        for (int c = 0; c < 6; c++) {
            answers.add(x.value(c));
            answers.add(x.version(c));
        }
        answers.add(x.threadCount());
        for (int t = 0; t < x.threadCount(); t++) {
            answers.add(x.state(t));
            answers.add(x.position(t));
            answers.add(x.accumulator(t));
            answers.add(x.readSet(t));
            answers.add(x.writeSet(t));
            answers.add(x.openBlocks(t));
            answers.add(x.runsLeft(t));
            answers.add(x.restarts(t));
            for (int c = 0; c < 6; c++) {
                answers.add(x.seenValue(t, c));
            }
        }
    }

    private static List<Integer> allAnswers(CellTransactions x) {
        List<Integer> answers = new ArrayList<>();
        reads(x, answers);
        answers.add(x.errorPosition());
        answers.add(x.outcomeCount());
        answers.add(x.possibleOutcomes());
        answers.add(x.canDeadlock());
        answers.add(x.greatestOutcome(0));
        int undone;
        do {
            undone = x.undo();
            answers.add(undone);
            answers.add(x.version(0));
            answers.add(x.position(0));
            answers.add(x.state(1));
            answers.add(x.runScript(4, 101_300_410_102L));
        } while (undone > 0);
        reads(x, answers);
        answers.add(x.addInvariant(0, 0, 0));
        for (int slot = 0; slot < 2; slot++) {
            answers.add(x.restore(slot));
            answers.add(x.value(0));
            answers.add(x.outcomeCount());
            answers.add(x.addInvariant(0, 0, 0));
        }
        reads(x, answers);
        for (int k = 0; k < 4; k++) {
            answers.add(x.observe(5, 6));
            answers.add(x.possibleOutcomes());
        }
        answers.add(x.clearText());
        return answers;
    }

    private static void refused(int kind, String call, int due, ToIntFunction<CellTransactions> ask) {
        CellTransactions x = make(kind);
        Check.due(object + ": " + call, ask.applyAsInt(x), due);
        Check.due(object + ": " + call + " again", ask.applyAsInt(x), due);
        List<Integer> answers = allAnswers(x);
        Check.due(object + ": number of answers after " + call, answers.size(), unasked.size());
        for (int k = 0; k < Math.min(answers.size(), unasked.size()); k++) {
            Check.due(object + ": answer " + k + " after " + call, answers.get(k), unasked.get(k));
        }
    }

    // ---- the calls

    private static void textCalls(int kind) {
        int[] noSigns = {-1, 256, 257, Integer.MIN_VALUE, Integer.MAX_VALUE};
        for (int c : noSigns) {
            // to the full text as well: this error is listed first
            refused(kind, "append(" + c + ")", BAD_VALUE, x -> x.append(c));
        }
        if (kind == 2) {
            refused(kind, "append(0)", FULL, x -> x.append(0));
            refused(kind, "append(255)", FULL, x -> x.append(255));
        }
        refused(kind, "load()", NOT_POSSIBLE, CellTransactions::load);
    }

    private static void readingCalls(int kind) {
        for (int c : NO_INDEX_OF_SIX) {
            refused(kind, "value(" + c + ")", NO_SUCH_INDEX, x -> x.value(c));
            refused(kind, "version(" + c + ")", NO_SUCH_INDEX, x -> x.version(c));
            refused(kind, "seenValue(0, " + c + ")", NO_SUCH_INDEX, x -> x.seenValue(0, c));
            refused(kind, "greatestOutcome(" + c + ")", NO_SUCH_INDEX, x -> x.greatestOutcome(c));
        }
        for (int t : NO_INDEX_OF_THREE) {
            refused(kind, "state(" + t + ")", NO_SUCH_INDEX, x -> x.state(t));
            refused(kind, "position(" + t + ")", NO_SUCH_INDEX, x -> x.position(t));
            refused(kind, "accumulator(" + t + ")", NO_SUCH_INDEX, x -> x.accumulator(t));
            refused(kind, "readSet(" + t + ")", NO_SUCH_INDEX, x -> x.readSet(t));
            refused(kind, "writeSet(" + t + ")", NO_SUCH_INDEX, x -> x.writeSet(t));
            refused(kind, "openBlocks(" + t + ")", NO_SUCH_INDEX, x -> x.openBlocks(t));
            refused(kind, "runsLeft(" + t + ")", NO_SUCH_INDEX, x -> x.runsLeft(t));
            refused(kind, "restarts(" + t + ")", NO_SUCH_INDEX, x -> x.restarts(t));
            refused(kind, "seenValue(" + t + ", 0)", NO_SUCH_INDEX, x -> x.seenValue(t, 0));
            refused(kind, "seenValue(" + t + ", 6)", NO_SUCH_INDEX, x -> x.seenValue(t, 6));
        }
    }

    private static void stepsAndRuns(int kind) {
        for (int t : NO_INDEX_OF_THREE) {
            refused(kind, "step(" + t + ")", NO_SUCH_INDEX, x -> x.step(t));
            refused(kind, "run(" + t + ")", NO_SUCH_INDEX, x -> x.run(t));
        }
        // of the busy object 1 waits and 2 has failed, of the full one 0 is done; the new one has no thread 1
        int first = kind == 2 ? 0 : 1;
        int last = kind == 2 ? 0 : 2;
        int due = kind == 0 ? NO_SUCH_INDEX : NOT_POSSIBLE;
        for (int k = first; k <= last; k++) {
            int t = k;
            refused(kind, "step(" + t + ")", due, x -> x.step(t));
            refused(kind, "run(" + t + ")", due, x -> x.run(t));
        }
    }

    private static void setCellCalls(int kind) {
        for (int c : NO_INDEX_OF_SIX) {
            refused(kind, "setCell(" + c + ", 0)", NO_SUCH_INDEX, x -> x.setCell(c, 0));
            refused(kind, "setCell(" + c + ", 100)", NO_SUCH_INDEX, x -> x.setCell(c, 100));
            refused(kind, "setCell(" + c + ", -100)", NO_SUCH_INDEX, x -> x.setCell(c, -100));
        }
        for (int v : NO_VALUES) {
            refused(kind, "setCell(0, " + v + ")", BAD_VALUE, x -> x.setCell(0, v));
            refused(kind, "setCell(5, " + v + ")", BAD_VALUE, x -> x.setCell(5, v));
        }
    }

    private static void addInvariantCalls(int kind) {
        // to the full object as well: these errors are listed before FULL
        for (int c : NO_INDEX_OF_SIX) {
            refused(kind, "addInvariant(" + c + ", 0, 0)", NO_SUCH_INDEX, x -> x.addInvariant(c, 0, 0));
            refused(kind, "addInvariant(0, " + c + ", 0)", NO_SUCH_INDEX, x -> x.addInvariant(0, c, 0));
            refused(kind, "addInvariant(" + c + ", " + c + ", 0)", NO_SUCH_INDEX, x -> x.addInvariant(c, c, 0));
            refused(kind, "addInvariant(" + c + ", 5, 100)", NO_SUCH_INDEX, x -> x.addInvariant(c, 5, 100));
            refused(kind, "addInvariant(5, " + c + ", -100)", NO_SUCH_INDEX, x -> x.addInvariant(5, c, -100));
        }
        for (int v : NO_VALUES) {
            refused(kind, "addInvariant(0, 5, " + v + ")", BAD_VALUE, x -> x.addInvariant(0, 5, v));
        }
        if (kind == 2) {
            refused(kind, "addInvariant(0, 0, 0)", FULL, x -> x.addInvariant(0, 0, 0));
            refused(kind, "addInvariant(5, 5, -99)", FULL, x -> x.addInvariant(5, 5, -99));
            refused(kind, "addInvariant(0, 5, 99)", FULL, x -> x.addInvariant(0, 5, 99));
        }
    }

    private static void otherActions(int kind) {
        if (kind == 0) {
            refused(kind, "undo()", NOT_POSSIBLE, CellTransactions::undo);
        }
    }

    private static void scripts(int kind) {
        int[] noNumbers = {0, 5, -1, 6, Integer.MIN_VALUE, Integer.MAX_VALUE};
        for (int n : noNumbers) {
            refused(kind, "runScript(" + n + ", 0)", BAD_VALUE, x -> x.runScript(n, 0));
            refused(kind, "runScript(" + n + ", 101)", BAD_VALUE, x -> x.runScript(n, 101));
            refused(kind, "runScript(" + n + ", -1)", BAD_VALUE, x -> x.runScript(n, -1));
        }
        long digitTooMany = 1000;
        for (int k = 1; k <= 4; k++) {
            int n = k;
            long script = digitTooMany;
            refused(kind, "runScript(" + n + ", " + script + ")", BAD_VALUE, x -> x.runScript(n, script));
            refused(kind, "runScript(" + n + ", -1)", BAD_VALUE, x -> x.runScript(n, -1));
            refused(kind, "runScript(" + n + ", -101)", BAD_VALUE, x -> x.runScript(n, -101));
            refused(kind, "runScript(" + n + ", least long)", BAD_VALUE, x -> x.runScript(n, Long.MIN_VALUE));
            refused(kind, "runScript(" + n + ", greatest long)", BAD_VALUE, x -> x.runScript(n, Long.MAX_VALUE));
            digitTooMany *= 1000;
        }
    }

    private static void observeCalls(int kind) {
        for (int c : NO_INDEX_OF_SIX) {
            refused(kind, "observe(" + c + ", 0)", NO_SUCH_INDEX, x -> x.observe(c, 0));
            refused(kind, "observe(" + c + ", 100)", NO_SUCH_INDEX, x -> x.observe(c, 100));
            refused(kind, "observe(" + c + ", -100)", NO_SUCH_INDEX, x -> x.observe(c, -100));
        }
        for (int v : NO_VALUES) {
            refused(kind, "observe(0, " + v + ")", BAD_VALUE, x -> x.observe(0, v));
            refused(kind, "observe(5, " + v + ")", BAD_VALUE, x -> x.observe(5, v));
        }
    }

    private static void slots(int kind) {
        for (int slot : NO_INDEX_OF_TWO) {
            refused(kind, "save(" + slot + ")", NO_SUCH_INDEX, x -> x.save(slot));
            refused(kind, "restore(" + slot + ")", NO_SUCH_INDEX, x -> x.restore(slot));
        }
        if (kind != 1) {
            refused(kind, "restore(1)", NOT_POSSIBLE, x -> x.restore(1));
        }
        if (kind != 2) {
            refused(kind, "restore(0)", NOT_POSSIBLE, x -> x.restore(0));
        }
    }
}
