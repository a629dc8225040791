/** Promises 18 and 19: step and run, and with them the rules of transactions. */
public final class StepTest {
    private static final int WENT_ON = CellTransactions.WENT_ON;
    private static final int COMMITTED = CellTransactions.COMMITTED;
    private static final int RESTARTED = CellTransactions.RESTARTED;
    private static final int WAITS = CellTransactions.WAITS;
    private static final int FAILS = CellTransactions.FAILS;
    private static final int NO_SUCH_INDEX = CellTransactions.NO_SUCH_INDEX;
    private static final int NOT_POSSIBLE = CellTransactions.NOT_POSSIBLE;

    public static void main(String[] args) {
        refusals();
        simpleTokens();
        clamping();
        emptyProgram();
        alternatives();
        retryGoesOutward();
        retryTakesBack();
        retryRestarts();
        nestedBlocks();
        abandonTakesBack();
        abandonWithoutBlock();
        commitBehindABracket();
        commitValidates();
        ownWritesAreNotRead();
        firstReadCounts();
        commitWrites();
        invariants();
        invariantsComeAfterValidation();
        wakingUp();
        wakingUpByCommits();
        waitingOnNothing();
        runUntilItEnds();
        runRestarts();
        runAtMostSixtySteps();
        Check.finish("StepTest");
    }

    private static void refusals() {
        CellTransactions x = Check.loaded("M000000t1.t1!.t1x.");
        int[] wrong = {-1, 3, Integer.MIN_VALUE, Integer.MAX_VALUE};
        for (int t : wrong) {
            Check.due("step(" + t + ")", x.step(t), NO_SUCH_INDEX);
            Check.due("run(" + t + ")", x.run(t), NO_SUCH_INDEX);
        }
        Check.due("step(0)", x.step(0), COMMITTED);
        Check.due("step(1)", x.step(1), WAITS);
        Check.due("step(2)", x.step(2), FAILS);
        for (int t = 0; t < 3; t++) {
            Check.due("step(" + t + ") when not ready", x.step(t), NOT_POSSIBLE);
            Check.due("run(" + t + ") when not ready", x.run(t), NOT_POSSIBLE);
        }
        Check.due("undo(): refused calls are no actions", x.undo(), 2);
    }

    private static void accumulators(String program, int... due) {
        CellTransactions x = Check.loaded("M123456t1" + program + "!.");
        for (int k = 0; k < due.length; k++) {
            Check.due("step " + (k + 1) + " of " + program, x.step(0), WENT_ON);
            Check.due("accumulator after step " + (k + 1) + " of " + program, x.accumulator(0), 100 + due[k]);
        }
        Check.due("the end of " + program, x.step(0), WAITS);
    }

    private static void simpleTokens() {
        accumulators("r3+5-0w0r0-9-9", 4, 9, 9, 9, 9, 0, -9);
        accumulators("+1+2w1r2r1w2r1", 1, 3, 3, 3, 3, 3, 3);
        accumulators("r5?6w0", 6, 6, 6);
        accumulators("?0+9?9", 0, 9, 9);
        accumulators("(-1?0|?0)", 0, -1, 0, 0, 0);
    }

    private static void clamping() {
        CellTransactions x = Check.loaded("M000000t1r0+9w0r1-9w1r0-9w0.");
        x.setCell(0, 95);
        x.setCell(1, -91);
        Check.goOn(x, 0, 2);
        Check.due("95 + 9", x.accumulator(0), 199);
        Check.goOn(x, 0, 3);
        Check.due("-91 - 9", x.accumulator(0), 1);
        Check.goOn(x, 0, 3);
        Check.due("99 - 9", x.accumulator(0), 190);
        Check.due("step(0)", x.step(0), COMMITTED);
        Check.due("value(0)", x.value(0), 190);
        Check.due("value(1)", x.value(1), 1);
    }

    private static void emptyProgram() {
        CellTransactions x = Check.loaded("M000000t2.");
        Check.due("step(0)", x.step(0), COMMITTED);
        Check.due("runsLeft(0)", x.runsLeft(0), 1);
        Check.due("state(0)", x.state(0), CellTransactions.READY);
        Check.due("run(0)", x.run(0), 1);
        Check.due("state(0)", x.state(0), CellTransactions.DONE);
        Check.due("restarts(0)", x.restarts(0), 0);
        Check.due("version(0)", x.version(0), 0);
    }

    /** Positions after each step, and the accumulator at the end. */
    private static CellTransactions path(String program, int sum, int... positions) {
        CellTransactions x = Check.loaded("M123456t1" + program + ".");
        for (int k = 0; k < positions.length; k++) {
            Check.due("step " + (k + 1) + " of " + program, x.step(0), WENT_ON);
            Check.due("position after step " + (k + 1) + " of " + program, x.position(0), positions[k]);
        }
        Check.due("accumulator at the end of " + program, x.accumulator(0), 100 + sum);
        return x;
    }

    private static void alternatives() {
        // the first branch, and behind the bracket
        Check.due("end", path("(+1|+2)+4+0", 5, 1, 2, 5, 6).step(0), COMMITTED);
        // the second branch
        Check.due("end", path("(!|+2)+4+0", 6, 1, 3, 4, 5, 6).step(0), COMMITTED);
        // empty branches
        Check.due("end", path("(|!)+4+0", 4, 1, 4, 5).step(0), COMMITTED);
        Check.due("end", path("(!|)+4+0", 4, 1, 3, 4, 5).step(0), COMMITTED);
        // a closed alternative is not taken up again
        Check.due("end", path("(+1|+2)!", 1, 1, 2, 5).step(0), WAITS);
        // a retry in a second branch finds no alternative
        Check.due("end", path("(!|!)", 0, 1, 3).step(0), WAITS);
    }

    private static void retryGoesOutward() {
        // over a nested block, into the alternative around it
        CellTransactions x = path("({+3!}|+1)+0", 1, 1, 2, 3, 6, 7);
        Check.due("openBlocks(0)", x.openBlocks(0), 1);
        // over an alternative in its second branch
        x = path("(+7(!|!)|+1)+0", 1, 1, 2, 3, 5, 8, 9);
        Check.due("openBlocks(0)", x.openBlocks(0), 1);
        // over a nested block in a second branch
        x = path("((!|{!})|)+0", 0, 1, 2, 4, 5, 9);
        Check.due("openBlocks(0)", x.openBlocks(0), 1);
        // the inner one first
        x = path("((!|)!|)+0", 0, 1, 2, 4, 5, 7);
        Check.due("openBlocks(0)", x.openBlocks(0), 1);
        // an alternative within a second branch has its own first branch
        x = path("(!|(!|+1))+0", 1, 1, 3, 4, 6, 7);
        Check.due("openBlocks(0)", x.openBlocks(0), 2);
    }

    private static void retryTakesBack() {
        CellTransactions x = Check.loaded("M123456t1+7w0w1(r2w1w3-9!|r0w4)!.");
        Check.goOn(x, 0, 3);
        Check.goOn(x, 0, 5);
        Check.due("writeSet(0)", x.writeSet(0), 11);
        Check.due("seenValue(0, 1)", x.seenValue(0, 1), 103);
        Check.goOn(x, 0, 1);
        Check.due("accumulator(0) is back", x.accumulator(0), 107);
        Check.due("writeSet(0) is back", x.writeSet(0), 3);
        Check.due("seenValue(0, 1) is back", x.seenValue(0, 1), 107);
        Check.due("seenValue(0, 3) is back", x.seenValue(0, 3), 104);
        Check.due("readSet(0) is not", x.readSet(0), 4);
        Check.goOn(x, 0, 2);
        Check.due("writeSet(0)", x.writeSet(0), 19);
        Check.due("seenValue(0, 4)", x.seenValue(0, 4), 107);
        Check.goOn(x, 0, 1);
        Check.due("step(0)", x.step(0), WAITS);
        x.setCell(2, 0);
        Check.due("woken by what only the first branch read", x.state(0), CellTransactions.READY);
    }

    private static void retryRestarts() {
        CellTransactions x = Check.loaded("M100000t1r0r1(?9|w2!).");
        Check.goOn(x, 0, 3);
        x.setCell(0, 1);
        Check.due("a retry with an alternative does not look at versions", x.step(0), WENT_ON);
        Check.goOn(x, 0, 1);
        Check.due("a retry to the end does", x.step(0), RESTARTED);
        Check.due("state(0)", x.state(0), CellTransactions.READY);
        Check.due("restarts(0)", x.restarts(0), 1);
        Check.due("position(0)", x.position(0), 0);
        Check.due("accumulator(0)", x.accumulator(0), 100);
        Check.due("readSet(0)", x.readSet(0), 0);
        Check.due("writeSet(0)", x.writeSet(0), 0);
        Check.due("openBlocks(0)", x.openBlocks(0), 0);
        Check.due("runsLeft(0)", x.runsLeft(0), 1);
        Check.due("run(0) with the present versions", x.run(0), 6);
        Check.due("state(0)", x.state(0), CellTransactions.WAITING);
    }

    private static void nestedBlocks() {
        Check.due("end", path("{+1}+4+0", 5, 1, 2, 3, 4).step(0), COMMITTED);
        Check.due("end", path("{}+4+0", 4, 1, 2, 3).step(0), COMMITTED);
        Check.due("end", path("{+1x+9}+4+0", 4, 1, 2, 5, 6).step(0), COMMITTED);
        // only the innermost block is left
        CellTransactions x = path("{+1{+2x}+4}+0", 5, 1, 2, 3, 4, 6, 7);
        Check.due("openBlocks(0)", x.openBlocks(0), 1);
        // with an alternative inside, in either branch
        x = path("+1{(+2x|)}+0", 1, 1, 2, 3, 4, 8);
        Check.due("openBlocks(0)", x.openBlocks(0), 0);
        x = path("+1{(!|+2x)}+0", 1, 1, 2, 3, 5, 6, 9);
        Check.due("openBlocks(0)", x.openBlocks(0), 0);
        // inside an alternative, which stays open and can still go to its second branch
        x = path("({+2x}!|+5)+0", 5, 1, 2, 3, 5, 7, 8);
        Check.due("openBlocks(0)", x.openBlocks(0), 1);
    }

    private static void abandonTakesBack() {
        CellTransactions x = Check.loaded("M123456t1+7w0w1{r2w1w3-9xr5}r4!.");
        Check.goOn(x, 0, 8);
        Check.due("writeSet(0)", x.writeSet(0), 11);
        Check.due("accumulator(0)", x.accumulator(0), 94);
        Check.goOn(x, 0, 1);
        Check.due("accumulator(0) is back", x.accumulator(0), 107);
        Check.due("writeSet(0) is back", x.writeSet(0), 3);
        Check.due("seenValue(0, 1) is back", x.seenValue(0, 1), 107);
        Check.due("seenValue(0, 3) is back", x.seenValue(0, 3), 104);
        Check.due("readSet(0) is not", x.readSet(0), 4);
        Check.due("position(0)", x.position(0), 11);
        Check.goOn(x, 0, 1);
        Check.due("readSet(0)", x.readSet(0), 20);
    }

    private static void abandonWithoutBlock() {
        CellTransactions x = Check.loaded("M000000t2{}(r0w1x|).t1r0.");
        Check.goOn(x, 0, 5);
        x.setCell(0, 3);
        Check.due("a changed version does not save it", x.step(0), FAILS);
        Check.due("state(0)", x.state(0), CellTransactions.FAILED);
        Check.due("runsLeft(0)", x.runsLeft(0), 2);
        Check.due("version(1)", x.version(1), 0);
        Check.due("openBlocks(0)", x.openBlocks(0), 0);
        Check.due("the other thread goes on", x.step(1), COMMITTED);
    }

    private static void commitBehindABracket() {
        endsIn("{}", 2, COMMITTED);
        endsIn("{x}", 2, COMMITTED);
        endsIn("(|)", 2, COMMITTED);
        endsIn("(+1|+2+3)", 3, COMMITTED);
        endsIn("(!|)", 3, COMMITTED);
        endsIn("?0", 1, COMMITTED);
        endsIn("r0", 1, COMMITTED);
        endsIn("{(x|)}", 3, COMMITTED);
    }

    private static void endsIn(String program, int steps, int due) {
        CellTransactions x = Check.loaded("M123456t1" + program + ".");
        Check.goOn(x, 0, steps - 1);
        Check.due("the last step of " + program, x.step(0), due);
    }

    private static void commitValidates() {
        CellTransactions x = Check.loaded("M500000t1r0+1w1+0.");
        Check.goOn(x, 0, 3);
        x.setCell(0, 5);
        Check.due("step(0): the value is the same, the version is not", x.step(0), RESTARTED);
        Check.due("version(1)", x.version(1), 0);
        Check.due("restarts(0)", x.restarts(0), 1);
        Check.due("position(0)", x.position(0), 0);
        Check.due("readSet(0)", x.readSet(0), 0);
        Check.due("runsLeft(0)", x.runsLeft(0), 1);
        Check.goOn(x, 0, 3);
        x.setCell(1, 9);
        x.setCell(2, 9);
        Check.due("step(0): cells that were not read may change", x.step(0), COMMITTED);
        Check.due("value(1)", x.value(1), 106);
        Check.due("version(1)", x.version(1), 2);
        // a read that retrying or abandoning took nothing back of
        x = Check.loaded("M500000t1{r3x}(r4!|)w1.");
        Check.goOn(x, 0, 7);
        x.setCell(3, 1);
        Check.due("step(0) after a read in an abandoned block", x.step(0), RESTARTED);
        Check.goOn(x, 0, 7);
        x.setCell(4, 1);
        Check.due("step(0) after a read in a left branch", x.step(0), RESTARTED);
        Check.due("restarts(0)", x.restarts(0), 2);
    }

    private static void ownWritesAreNotRead() {
        CellTransactions x = Check.loaded("M123456t1w0r0+0.");
        Check.goOn(x, 0, 2);
        Check.due("readSet(0)", x.readSet(0), 0);
        x.setCell(0, 9);
        Check.due("step(0)", x.step(0), COMMITTED);
        Check.due("value(0)", x.value(0), 100);
        Check.due("version(0)", x.version(0), 2);
        // what a block wrote is not written any more when it has been abandoned
        x = Check.loaded("M123456t1{w0x}r0+0.");
        Check.goOn(x, 0, 4);
        Check.due("readSet(0)", x.readSet(0), 1);
        Check.due("accumulator(0)", x.accumulator(0), 101);
    }

    private static void firstReadCounts() {
        CellTransactions x = Check.loaded("M100000t1r0r0+0.");
        Check.goOn(x, 0, 1);
        x.setCell(0, 8);
        Check.goOn(x, 0, 1);
        Check.due("accumulator(0): the present value", x.accumulator(0), 108);
        Check.due("step(0): the version of the first read", x.step(0), RESTARTED);
    }

    private static void commitWrites() {
        CellTransactions x = Check.loaded("M123456t2r0w3+1w0w5-1w5.t1r3.");
        Check.due("run(0)", x.run(0), 7);
        int[] values = {2, 2, 3, 1, 5, 1};
        int[] versions = {1, 0, 0, 1, 0, 1};
        for (int c = 0; c < 6; c++) {
            Check.due("value(" + c + ")", x.value(c), 100 + values[c]);
            Check.due("version(" + c + ")", x.version(c), versions[c]);
        }
        Check.due("runsLeft(0)", x.runsLeft(0), 1);
        Check.due("run(0)", x.run(0), 7);
        Check.due("value(0)", x.value(0), 103);
        Check.due("value(3)", x.value(3), 102);
        Check.due("version(5): written twice, grown once a commit", x.version(5), 2);
        Check.due("state(0)", x.state(0), CellTransactions.DONE);
        Check.due("restarts(0)", x.restarts(0), 0);
        Check.due("state(1)", x.state(1), CellTransactions.READY);
        // the same value grows the version, too
        x = Check.loaded("M123456t1r0w0.");
        x.run(0);
        Check.due("version(0)", x.version(0), 1);
    }

    private static void commitUnder(String program, int i, int j, int v, int due) {
        CellTransactions x = Check.loaded("M123456t2" + program + ".");
        x.addInvariant(i, j, v);
        Check.due("step(0) of " + program + " under " + i + ", " + j + ", " + v, x.step(0), due);
        Check.due("runsLeft(0)", x.runsLeft(0), due == FAILS ? 2 : 1);
        Check.due("state(0)", x.state(0), due == FAILS ? CellTransactions.FAILED : CellTransactions.READY);
    }

    private static void invariants() {
        commitUnder("w0", 0, 1, 2, COMMITTED);
        commitUnder("w0", 0, 1, 3, FAILS);
        commitUnder("w0", 1, 0, 3, FAILS);
        commitUnder("w0", 0, 0, 0, COMMITTED);
        commitUnder("w0", 0, 0, 1, FAILS);
        commitUnder("w0", 5, 5, 12, COMMITTED);
        commitUnder("w0", 5, 5, 13, FAILS);
        commitUnder("", 4, 5, 11, COMMITTED);
        commitUnder("", 4, 5, 12, FAILS);
        commitUnder("r0", 2, 3, 8, FAILS);
        CellTransactions x = Check.loaded("M000000t2+5w0w1.t1.");
        x.addInvariant(0, 0, 0);
        x.addInvariant(1, 1, 10);
        x.addInvariant(2, 2, 0);
        x.addInvariant(3, 0, 5);
        Check.due("run(0): violated before, but not after it", x.run(0), 3);
        Check.due("value(1)", x.value(1), 105);
        x.setCell(3, -1);
        Check.due("run(1): the fourth is violated", x.run(1), 1);
        Check.due("state(1)", x.state(1), CellTransactions.FAILED);
        Check.due("run(0): and now by it, too", x.run(0), 3);
        Check.due("state(0)", x.state(0), CellTransactions.FAILED);
        Check.due("version(0): nothing was written", x.version(0), 1);
        Check.due("version(1)", x.version(1), 1);
        x = Check.loaded("M000000t1.");
        x.setCell(0, 99);
        x.setCell(1, 99);
        x.addInvariant(0, 1, 99);
        Check.due("198 is 99 or more", x.step(0), COMMITTED);
    }

    private static void invariantsComeAfterValidation() {
        CellTransactions x = Check.loaded("M500000t1r0w1.");
        x.addInvariant(1, 1, 14);
        Check.goOn(x, 0, 1);
        x.setCell(0, 7);
        Check.due("step(0)", x.step(0), RESTARTED);
        Check.due("run(0)", x.run(0), 2);
        Check.due("value(1)", x.value(1), 107);
    }

    private static void wakingUp() {
        CellTransactions x = Check.loaded("M000000t2r0r3w1?1.t1r3!.");
        Check.due("run(0)", x.run(0), 4);
        Check.due("run(1)", x.run(1), 2);
        x.setCell(1, 4);
        x.setCell(2, 4);
        Check.due("state(0)", x.state(0), CellTransactions.WAITING);
        Check.due("restarts(0)", x.restarts(0), 0);
        x.setCell(0, 0);
        Check.due("state(0) when its cell was written, though as it was", x.state(0), CellTransactions.READY);
        Check.due("restarts(0)", x.restarts(0), 1);
        Check.due("state(1)", x.state(1), CellTransactions.WAITING);
        x.setCell(0, 0);
        Check.due("restarts(0): only waiting threads restart", x.restarts(0), 1);
        Check.due("run(0)", x.run(0), 4);
        Check.due("state(0)", x.state(0), CellTransactions.WAITING);
        x.setCell(3, 2);
        Check.due("state(0)", x.state(0), CellTransactions.READY);
        Check.due("state(1)", x.state(1), CellTransactions.READY);
        Check.due("restarts(0)", x.restarts(0), 2);
        Check.due("restarts(1)", x.restarts(1), 1);
    }

    private static void wakingUpByCommits() {
        CellTransactions x = Check.loaded("M000000t1r0r1?1.t2r2w3+1w0w1.t1r3!.");
        Check.due("run(0)", x.run(0), 3);
        Check.due("run(2)", x.run(2), 2);
        Check.goOn(x, 1, 4);
        Check.due("state(0) before the commit", x.state(0), CellTransactions.WAITING);
        Check.due("step(1)", x.step(1), COMMITTED);
        Check.due("state(0)", x.state(0), CellTransactions.READY);
        Check.due("restarts(0): two of its cells, but one waking", x.restarts(0), 1);
        Check.due("restarts(2)", x.restarts(2), 1);
        Check.due("restarts(1)", x.restarts(1), 0);
        Check.due("run(0)", x.run(0), 3);
        Check.due("state(0)", x.state(0), CellTransactions.DONE);
        // a commit that fails or restarts wakes nobody
        x = Check.loaded("M000000t1r0!.t1r1w0.");
        x.run(0);
        x.addInvariant(5, 5, 1);
        Check.goOn(x, 1, 1);
        x.setCell(1, 0);
        Check.due("step(1)", x.step(1), RESTARTED);
        Check.due("state(0)", x.state(0), CellTransactions.WAITING);
        Check.due("run(1)", x.run(1), 2);
        Check.due("state(1)", x.state(1), CellTransactions.FAILED);
        Check.due("state(0)", x.state(0), CellTransactions.WAITING);
    }

    private static void waitingOnNothing() {
        CellTransactions x = Check.loaded("M000000t1w0r0!.");
        Check.due("run(0)", x.run(0), 3);
        for (int c = 0; c < 6; c++) {
            x.setCell(c, 1);
        }
        Check.due("state(0)", x.state(0), CellTransactions.WAITING);
        Check.due("writeSet(0)", x.writeSet(0), 1);
        Check.due("seenValue(0, 0)", x.seenValue(0, 0), 100);
    }

    private static void runUntilItEnds() {
        CellTransactions x = Check.loaded("M000000t2r0+1w0.t1r0+0?1.t1{x}{x}x.");
        Check.due("run(1) waits", x.run(1), 3);
        Check.due("run(2) fails", x.run(2), 5);
        Check.due("state(2)", x.state(2), CellTransactions.FAILED);
        Check.goOn(x, 0, 1);
        Check.due("run(0) goes on in the middle", x.run(0), 2);
        Check.due("runsLeft(0): one commit only", x.runsLeft(0), 1);
        Check.due("run(1)", x.run(1), 3);
        Check.due("state(1)", x.state(1), CellTransactions.DONE);
        Check.due("undo() takes a whole run back", x.undo(), 4);
        Check.due("state(1)", x.state(1), CellTransactions.READY);
        Check.due("position(1)", x.position(1), 0);
    }

    private static void runRestarts() {
        CellTransactions x = Check.loaded("M000000t1r0+1w0+0.t1r0!.");
        Check.goOn(x, 0, 2);
        x.setCell(0, 6);
        Check.due("run(0)", x.run(0), 2 + 4);
        Check.due("restarts(0)", x.restarts(0), 1);
        Check.due("value(0)", x.value(0), 107);
        Check.goOn(x, 1, 1);
        x.setCell(0, 6);
        Check.due("run(1)", x.run(1), 1 + 2);
        Check.due("restarts(1)", x.restarts(1), 1);
        Check.due("state(1)", x.state(1), CellTransactions.WAITING);
    }

    private static void runAtMostSixtySteps() {
        StringBuilder program = new StringBuilder("r0");
        while (program.length() < 50) {
            program.append("{}");
        }
        CellTransactions x = Check.loaded("M000000t1" + program + ".");
        Check.due("position(0)", x.position(0), 0);
        Check.due("step(0)", x.step(0), WENT_ON);
        x.setCell(0, 1);
        Check.due("run(0): 48 to the end, then a new beginning", x.run(0), 60);
        Check.due("restarts(0)", x.restarts(0), 1);
        Check.due("state(0)", x.state(0), CellTransactions.READY);
        Check.due("position(0)", x.position(0), 12);
        Check.due("run(0)", x.run(0), 49 - 12);
        Check.due("state(0)", x.state(0), CellTransactions.DONE);
    }
}
