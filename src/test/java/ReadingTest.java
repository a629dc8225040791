/** Promises 6 to 17: reading the cells and the threads. */
public final class ReadingTest {
    private static final int NO_SUCH_INDEX = CellTransactions.NO_SUCH_INDEX;
    private static final int READY = CellTransactions.READY;
    private static final int WAITING = CellTransactions.WAITING;
    private static final int DONE = CellTransactions.DONE;
    private static final int FAILED = CellTransactions.FAILED;

    public static void main(String[] args) {
        noSuchIndex();
        cells();
        threadCounts();
        readingChangesNothing();
        readyThread();
        waitingThread();
        doneThread();
        failedThread();
        seenValues();
        readLog();
        writeLog();
        positionsAndOpenBlocks();
        Check.finish("ReadingTest");
    }

    private static void noSuchIndex() {
        CellTransactions x = Check.loaded("M000000t1.t1.");
        int[] wrongCells = {-1, 6, 7, 32, 64, Integer.MIN_VALUE, Integer.MAX_VALUE};
        for (int c : wrongCells) {
            Check.due("value(" + c + ")", x.value(c), NO_SUCH_INDEX);
            Check.due("version(" + c + ")", x.version(c), NO_SUCH_INDEX);
            Check.due("seenValue(0, " + c + ")", x.seenValue(0, c), NO_SUCH_INDEX);
        }
        int[] wrongThreads = {-1, 2, 3, 4, Integer.MIN_VALUE, Integer.MAX_VALUE};
        for (int t : wrongThreads) {
            Check.due("state(" + t + ")", x.state(t), NO_SUCH_INDEX);
            Check.due("position(" + t + ")", x.position(t), NO_SUCH_INDEX);
            Check.due("accumulator(" + t + ")", x.accumulator(t), NO_SUCH_INDEX);
            Check.due("seenValue(" + t + ", 0)", x.seenValue(t, 0), NO_SUCH_INDEX);
            Check.due("seenValue(" + t + ", 6)", x.seenValue(t, 6), NO_SUCH_INDEX);
            Check.due("readSet(" + t + ")", x.readSet(t), NO_SUCH_INDEX);
            Check.due("writeSet(" + t + ")", x.writeSet(t), NO_SUCH_INDEX);
            Check.due("openBlocks(" + t + ")", x.openBlocks(t), NO_SUCH_INDEX);
            Check.due("runsLeft(" + t + ")", x.runsLeft(t), NO_SUCH_INDEX);
            Check.due("restarts(" + t + ")", x.restarts(t), NO_SUCH_INDEX);
        }
        Check.due("state(1)", x.state(1), READY);
    }

    private static void cells() {
        CellTransactions x = Check.loaded("M102938t1.");
        int[] values = {1, 0, 2, 9, 3, 8};
        for (int c = 0; c < 6; c++) {
            Check.due("value(" + c + ")", x.value(c), 100 + values[c]);
        }
        x.setCell(4, -99);
        x.setCell(4, 99);
        x.setCell(4, -99);
        x.setCell(5, 99);
        Check.due("value(4) at its least", x.value(4), 1);
        Check.due("version(4)", x.version(4), 3);
        Check.due("value(5) at its greatest", x.value(5), 199);
        Check.due("version(5)", x.version(5), 1);
        Check.due("value(3) beside them", x.value(3), 109);
        Check.due("version(3)", x.version(3), 0);
    }

    private static void threadCounts() {
        Check.due("one thread", Check.loaded("M000000t2.").threadCount(), 1);
        Check.due("two threads", Check.loaded("M000000t2.t1.").threadCount(), 2);
        CellTransactions x = Check.loaded("M000000t2.t1.t1x.");
        Check.due("three threads", x.threadCount(), 3);
        x.run(1);
        x.run(2);
        Check.due("three threads, two of them ended", x.threadCount(), 3);
    }

    private static void readingChangesNothing() {
        CellTransactions x = Check.loaded("M123456t1(r0w1?9|).");
        Check.goOn(x, 0, 3);
        for (int k = 0; k < 2; k++) {
            Check.due("seenValue(0, 5)", x.seenValue(0, 5), 106);
            Check.due("readSet(0)", x.readSet(0), 1);
            Check.due("writeSet(0)", x.writeSet(0), 2);
            Check.due("position(0)", x.position(0), 3);
            Check.due("openBlocks(0)", x.openBlocks(0), 1);
            Check.due("value(1)", x.value(1), 102);
            Check.due("seenValue(0, 1)", x.seenValue(0, 1), 101);
        }
        Check.due("undo(): three steps were remembered", x.undo(), 2);
    }

    private static void thread(String when, CellTransactions x, int t, int... due) {
        Check.due(when + ": state(" + t + ")", x.state(t), due[0]);
        Check.due(when + ": position(" + t + ")", x.position(t), due[1]);
        Check.due(when + ": accumulator(" + t + ")", x.accumulator(t), due[2]);
        Check.due(when + ": readSet(" + t + ")", x.readSet(t), due[3]);
        Check.due(when + ": writeSet(" + t + ")", x.writeSet(t), due[4]);
        Check.due(when + ": openBlocks(" + t + ")", x.openBlocks(t), due[5]);
        Check.due(when + ": runsLeft(" + t + ")", x.runsLeft(t), due[6]);
        Check.due(when + ": restarts(" + t + ")", x.restarts(t), due[7]);
    }

    private static void readyThread() {
        CellTransactions x = Check.loaded("M000500t2{r3-8w5}r1.");
        thread("at first", x, 0, READY, 0, 100, 0, 0, 0, 2, 0);
        Check.goOn(x, 0, 1);
        thread("behind {", x, 0, READY, 1, 100, 0, 0, 1, 2, 0);
        Check.goOn(x, 0, 1);
        thread("behind r3", x, 0, READY, 2, 105, 8, 0, 1, 2, 0);
        Check.goOn(x, 0, 1);
        thread("behind -8", x, 0, READY, 3, 97, 8, 0, 1, 2, 0);
        Check.goOn(x, 0, 1);
        thread("behind w5", x, 0, READY, 4, 97, 8, 32, 1, 2, 0);
        Check.goOn(x, 0, 1);
        thread("behind }", x, 0, READY, 5, 97, 8, 32, 0, 2, 0);
        Check.due("step(0) commits", x.step(0), CellTransactions.COMMITTED);
        thread("in its second run", x, 0, READY, 0, 100, 0, 0, 0, 1, 0);
        Check.due("value(5)", x.value(5), 97);
    }

    private static void waitingThread() {
        CellTransactions x = Check.loaded("M040000t2r1w2{(+1!|{?9x})}.");
        Check.due("run(0)", x.run(0), 8);
        thread("waiting", x, 0, WAITING, 8, 104, 2, 4, 3, 2, 0);
        Check.due("seenValue(0, 2) of what waits in the log", x.seenValue(0, 2), 104);
        x.setCell(2, 7);
        thread("still waiting", x, 0, WAITING, 8, 104, 2, 4, 3, 2, 0);
        x.setCell(1, 4);
        thread("woken", x, 0, READY, 0, 100, 0, 0, 0, 2, 1);
    }

    private static void doneThread() {
        CellTransactions x = Check.loaded("M040000t1r1w2(|).");
        Check.due("run(0)", x.run(0), 4);
        thread("done", x, 0, DONE, 0, 100, 0, 0, 0, 0, 0);
        Check.due("seenValue(0, 2)", x.seenValue(0, 2), 104);
        x.setCell(2, 9);
        Check.due("seenValue(0, 2) later", x.seenValue(0, 2), 109);
    }

    private static void failedThread() {
        CellTransactions x = Check.loaded("M040000t2r1w2(x|).t2r1w2.");
        Check.due("run(0)", x.run(0), 4);
        thread("abandoned", x, 0, FAILED, 0, 100, 0, 0, 0, 2, 0);
        Check.due("seenValue(0, 2)", x.seenValue(0, 2), 100);
        x.addInvariant(2, 2, -7);
        x.setCell(1, -4);
        Check.due("run(1)", x.run(1), 2);
        thread("violating", x, 1, FAILED, 0, 100, 0, 0, 0, 2, 0);
        Check.due("value(2)", x.value(2), 100);
    }

    private static void seenValues() {
        CellTransactions x = Check.loaded("M123456t1r0w1r2w2+5w1.t1r1w3.");
        Check.goOn(x, 0, 2);
        Check.goOn(x, 1, 1);
        Check.due("seenValue(0, 0) only read", x.seenValue(0, 0), 101);
        Check.due("seenValue(0, 1) written", x.seenValue(0, 1), 101);
        Check.due("seenValue(0, 2) in no log", x.seenValue(0, 2), 103);
        Check.due("seenValue(1, 1) of the other thread", x.seenValue(1, 1), 102);
        x.setCell(0, 50);
        x.setCell(1, 51);
        Check.due("seenValue(0, 0): the read log holds no values", x.seenValue(0, 0), 150);
        Check.due("seenValue(0, 1): the write log hides the cell", x.seenValue(0, 1), 101);
        Check.due("seenValue(1, 1)", x.seenValue(1, 1), 151);
        Check.goOn(x, 0, 3);
        Check.due("seenValue(0, 2) written with its own value", x.seenValue(0, 2), 103);
        Check.due("accumulator(0)", x.accumulator(0), 108);
        Check.due("writeSet(0)", x.writeSet(0), 6);
    }

    private static void readLog() {
        CellTransactions x = Check.loaded("M123456t1r5r0w1r1r5w5r5(r2!|r3){r4x}r4!.");
        int[] due = {32, 33, 33, 33, 33, 33, 33, 33, 37, 37, 45, 45, 45, 61, 61};
        for (int k = 0; k < due.length; k++) {
            Check.goOn(x, 0, 1);
            Check.due("readSet(0) after step " + (k + 1), x.readSet(0), due[k]);
        }
        Check.goOn(x, 0, 1);
        Check.due("step(0)", x.step(0), CellTransactions.WAITS);
        Check.due("readSet(0) waiting", x.readSet(0), 61);
    }

    private static void writeLog() {
        CellTransactions x = Check.loaded("M000000t1w0w5(w1!|w2){w3x}w4{w1}(w3|)!.");
        int[] due = {1, 33, 33, 35, 33, 37, 37, 37, 45, 37, 53, 53, 55, 55, 55, 63, 63};
        for (int k = 0; k < due.length; k++) {
            Check.goOn(x, 0, 1);
            Check.due("writeSet(0) after step " + (k + 1), x.writeSet(0), due[k]);
        }
    }

    private static void positionsAndOpenBlocks() {
        // tokens: 0 { 1 ( 2 r0 3 ( 4 ?1 5 | 6 ! 7 ) 8 | 9 { 10 x 11 } 12 x 13 ) 14 } 15 ( 16 | 17 ) 18 w0 19 x
        CellTransactions x = Check.loaded("M000000t1{(r0(?1|!)|{x}x)}(|)w0x.");
        int[] positions = {1, 2, 3, 4, 6, 9, 10, 12, 15, 16, 18, 19};
        int[] open = {1, 2, 2, 3, 3, 2, 3, 2, 0, 1, 0, 0};
        for (int k = 0; k < positions.length; k++) {
            Check.goOn(x, 0, 1);
            Check.due("position(0) after step " + (k + 1), x.position(0), positions[k]);
            Check.due("openBlocks(0) after step " + (k + 1), x.openBlocks(0), open[k]);
        }
        Check.due("step(0)", x.step(0), CellTransactions.FAILS);
    }
}
