/**
 * Boundaries that the document names, in its order, where no other test stands on both sides of them. The calls that
 * are refused, and what they must leave as it was, are in RefusedCallsTest.
 */
public final class BoundaryTest {
    private static final int READY = CellTransactions.READY;
    private static final int WAITING = CellTransactions.WAITING;
    private static final int DONE = CellTransactions.DONE;
    private static final int FAILED = CellTransactions.FAILED;
    private static final int WENT_ON = CellTransactions.WENT_ON;
    private static final int COMMITTED = CellTransactions.COMMITTED;
    private static final int RESTARTED = CellTransactions.RESTARTED;
    private static final int WAITS = CellTransactions.WAITS;
    private static final int FAILS = CellTransactions.FAILS;
    private static final int NONE = CellTransactions.NONE;
    private static final int NO_SUCH_INDEX = CellTransactions.NO_SUCH_INDEX;
    private static final int NOT_POSSIBLE = CellTransactions.NOT_POSSIBLE;
    private static final int FULL = CellTransactions.FULL;

    public static void main(String[] args) {
        threadsOnBothSides();
        clampedSums();
        clampedWherever();
        countsAreNotClamped();
        numbersOfTokens();
        threeDeep();
        emptyBranches();
        commitBehindTheLastBracket();
        invariantBounds();
        fourthInvariantCounts();
        textOfSixtySigns();
        longestProgram();
        firstErrorStays();
        observationsAfterLoad();
        sixtySteps();
        sixtiethStepEnds();
        fifteenActions();
        fifteenActionsOfEachKind();
        fifteenActionsAfterForgetting();
        nobodyAbleToRun();
        thirdThreadBlocked();
        deadlockThatIsNoMore();
        scriptsOfThreeThreads();
        scriptsOfNineSteps();
        scriptsThatFailLate();
        observationBounds();
        fiveObservations();
        oneSlotIsEmpty();
        Check.finish("BoundaryTest");
    }

    // ---- terms: cells and threads

    private static void threadsOnBothSides() {
        String[] setups = {"M000000t1.", "M000000t1.t1.", "M000000t1.t1.t1."};
        for (int count = 1; count <= 3; count++) {
            String setup = setups[count - 1];
            CellTransactions x = Check.loaded(setup);
            readThread(setup, x, count - 1, 0);
            readThread(setup, x, count, NO_SUCH_INDEX);
            readThread(setup, x, -1, NO_SUCH_INDEX);
            Check.due("seenValue(last, 5) of " + setup, x.seenValue(count - 1, 5), 100);
            Check.due("seenValue(last, 6) of " + setup, x.seenValue(count - 1, 6), NO_SUCH_INDEX);
            Check.due("seenValue(last, -1) of " + setup, x.seenValue(count - 1, -1), NO_SUCH_INDEX);
            Check.due("seenValue behind the last of " + setup, x.seenValue(count, 5), NO_SUCH_INDEX);
            Check.due("step behind the last of " + setup, x.step(count), NO_SUCH_INDEX);
            Check.due("run behind the last of " + setup, x.run(count), NO_SUCH_INDEX);
            Check.due("step(last) of " + setup, x.step(count - 1), COMMITTED);
            Check.due("state(last) of " + setup, x.state(count - 1), DONE);
        }
        // threads of an earlier setup are gone
        CellTransactions x = Check.loaded("M000000t1.t1.t1.");
        x.clearText();
        Check.type(x, "M000000t1.");
        x.load();
        readThread("fewer threads", x, 1, NO_SUCH_INDEX);
        Check.due("step(1) of fewer threads", x.step(1), NO_SUCH_INDEX);
    }

    /** The answers for a thread that has done nothing, or the error from all of them. */
    private static void readThread(String when, CellTransactions x, int t, int error) {
        Check.due(when + " state(" + t + ")", x.state(t), error < 0 ? error : READY);
        Check.due(when + " position(" + t + ")", x.position(t), error < 0 ? error : 0);
        Check.due(when + " accumulator(" + t + ")", x.accumulator(t), error < 0 ? error : 100);
        Check.due(when + " readSet(" + t + ")", x.readSet(t), error < 0 ? error : 0);
        Check.due(when + " writeSet(" + t + ")", x.writeSet(t), error < 0 ? error : 0);
        Check.due(when + " openBlocks(" + t + ")", x.openBlocks(t), error < 0 ? error : 0);
        Check.due(when + " runsLeft(" + t + ")", x.runsLeft(t), error < 0 ? error : 1);
        Check.due(when + " restarts(" + t + ")", x.restarts(t), error < 0 ? error : 0);
    }

    private static void sum(int value, String token, int due) {
        CellTransactions x = Check.loaded("M000000t1r0" + token + "w1+0.");
        x.setCell(0, value);
        Check.goOn(x, 0, 1 + token.length() / 2);
        Check.due("accumulator(0) of " + value + token, x.accumulator(0), 100 + due);
        Check.goOn(x, 0, 1);
        Check.due("seenValue(0, 1) of " + value + token, x.seenValue(0, 1), 100 + due);
        Check.due("step(0) of " + value + token, x.step(0), COMMITTED);
        Check.due("value(1) of " + value + token, x.value(1), 100 + due);
    }

    private static void clampedSums() {
        sum(98, "+1", 99);
        sum(99, "+0", 99);
        sum(99, "+1", 99);
        sum(99, "+9", 99);
        sum(90, "+8", 98);
        sum(90, "+9", 99);
        sum(91, "+9", 99);
        sum(-98, "-1", -99);
        sum(-99, "-0", -99);
        sum(-99, "-1", -99);
        sum(-99, "-9", -99);
        sum(-90, "-8", -98);
        sum(-90, "-9", -99);
        sum(-91, "-9", -99);
        // one goes on from what was clamped
        sum(95, "+9-9", 90);
        sum(-95, "-9+9", -90);
    }

    private static void clampedWherever() {
        CellTransactions x = Check.loaded("M000000t2r0+9w0.t1r1-9-9w1.");
        x.setCell(0, 85);
        x.setCell(1, -85);
        Check.due("greatestOutcome(0) of 85 + 9 + 9", x.greatestOutcome(0), 199);
        Check.due("greatestOutcome(1) of -85 - 9 - 9", x.greatestOutcome(1), 1);
        x.observe(0, 99);
        x.observe(1, -99);
        Check.due("possibleOutcomes() with what is clamped", x.possibleOutcomes(), 1);
        x = Check.loaded("M000000t1r0+9" + "-9".repeat(10) + "w0.");
        x.setCell(0, 99);
        script(x, 3, 109104309, NONE);
        Check.due("greatestOutcome(0) of 99 + 9 - 90", x.greatestOutcome(0), 109);
        x = Check.loaded("M000000t1r0-9" + "+9".repeat(11) + "w0.");
        x.setCell(0, -99);
        script(x, 3, 109105300, NONE);
        Check.due("greatestOutcome(0) of -99 - 9 + 99", x.greatestOutcome(0), 100);
    }

    private static void countsAreNotClamped() {
        CellTransactions x = Check.loaded("M000000t1r0!.");
        for (int k = 1; k <= 101; k++) {
            Check.due("run(0) number " + k, x.run(0), 2);
            Check.due("setCell(0, 0) number " + k, x.setCell(0, 0), k);
        }
        Check.due("version(0) above 99", x.version(0), 101);
        Check.due("restarts(0) above 99", x.restarts(0), 101);
    }

    // ---- terms: programs and transactions

    private static void numbersOfTokens() {
        CellTransactions x = Check.loaded("M123456t1r0w5.t1r5w0.");
        Check.due("run(0)", x.run(0), 2);
        Check.due("value(5) from cell 0", x.value(5), 101);
        x.setCell(5, 6);
        Check.due("run(1)", x.run(1), 2);
        Check.due("value(0) from cell 5", x.value(0), 106);
        x = Check.loaded("M000000t1+0+9-0-9-9.");
        int[] sums = {0, 9, 9, 0};
        for (int due : sums) {
            Check.goOn(x, 0, 1);
            Check.due("accumulator(0)", x.accumulator(0), 100 + due);
        }
        // below, at and above each end of ?
        asks(-1, 0, WAITS);
        asks(0, 0, WENT_ON);
        asks(1, 0, WENT_ON);
        asks(8, 9, WAITS);
        asks(9, 9, WENT_ON);
        asks(10, 9, WENT_ON);
        asks(-99, 0, WAITS);
        asks(99, 9, WENT_ON);
    }

    private static void asks(int value, int least, int due) {
        CellTransactions x = Check.loaded("M000000t1r0?" + least + "w1.");
        x.setCell(0, value);
        Check.goOn(x, 0, 1);
        Check.due("step(0) of ?" + least + " with " + value, x.step(0), due);
    }

    private static void threeDeep() {
        // in the second branches of three alternatives
        CellTransactions x = Check.loaded("M000000t1+1(!|(!|(!|+4!))).");
        Check.goOn(x, 0, 8);
        Check.due("openBlocks(0) three deep", x.openBlocks(0), 3);
        Check.due("accumulator(0) three deep", x.accumulator(0), 105);
        Check.due("step(0): no first branch is left", x.step(0), WAITS);
        Check.due("openBlocks(0) waiting", x.openBlocks(0), 3);
        Check.due("position(0) waiting", x.position(0), 11);
        // from the third depth to the first, over two nested blocks
        x = Check.loaded("M000000t1+1({+1{+1!}}|+5)+0.");
        Check.goOn(x, 0, 6);
        Check.due("openBlocks(0) three deep", x.openBlocks(0), 3);
        Check.goOn(x, 0, 1);
        Check.due("openBlocks(0) of the outermost", x.openBlocks(0), 1);
        Check.due("accumulator(0) of the outermost", x.accumulator(0), 101);
        Check.due("position(0) in its second branch", x.position(0), 10);
        // each abandonment leaves one block, the fourth has none to leave
        x = Check.loaded("M000000t1{+1{+1{+1x}x}x}x.");
        Check.goOn(x, 0, 6);
        for (int depth = 3; depth > 0; depth--) {
            Check.due("openBlocks(0)", x.openBlocks(0), depth);
            Check.due("accumulator(0)", x.accumulator(0), 100 + depth);
            Check.goOn(x, 0, 1);
        }
        Check.due("openBlocks(0) behind all", x.openBlocks(0), 0);
        Check.due("accumulator(0) behind all", x.accumulator(0), 100);
        Check.due("step(0) abandons the transaction", x.step(0), FAILS);
        // depth is counted anew behind what is closed
        Check.due("run(0) of three deep twice", Check.loaded("M000000t1{{{}}}{(|{}){}}.").run(0), 12);
    }

    private static void emptyBranches() {
        Check.due("run(0) of (|)", Check.loaded("M000000t1(|).").run(0), 2);
        Check.due("run(0) of {}", Check.loaded("M000000t1{}.").run(0), 2);
        Check.due("run(0) of (!|)", Check.loaded("M000000t1(!|).").run(0), 3);
        Check.due("run(0) of {x}", Check.loaded("M000000t1{x}.").run(0), 2);
        Check.due("run(0) of three empty ones, each in the next", Check.loaded("M000000t1({(|)}|).").run(0), 6);
        CellTransactions x = Check.loaded("M000000t1(+3!|)+1w0.");
        Check.due("run(0) into an empty second branch", x.run(0), 6);
        Check.due("value(0)", x.value(0), 101);
        x = Check.loaded("M000000t1(|+3)+1w0.");
        Check.due("run(0) through an empty first branch", x.run(0), 4);
        Check.due("value(0)", x.value(0), 101);
    }

    /** The step that leaves the last block does all of a commit: it can restart or fail as well. */
    private static void commitBehindTheLastBracket() {
        lastStep("r0{}", 2);
        lastStep("r0{x}", 2);
        lastStep("r0(|)", 2);
        lastStep("{r0x}", 2);
        lastStep("r0(|+1w1)", 2);
        lastStep("r0?0", 1);
        lastStep("(r0!|)", 3);
    }

    private static void lastStep(String program, int before) {
        CellTransactions x = Check.loaded("M000000t2" + program + ".");
        Check.goOn(x, 0, before);
        x.setCell(0, 0);
        Check.due("the last step of " + program + ", a version has changed", x.step(0), RESTARTED);
        Check.due("position(0) of " + program, x.position(0), 0);
        Check.goOn(x, 0, before);
        Check.due("the last step of " + program, x.step(0), COMMITTED);
        x.addInvariant(5, 5, 1);
        Check.goOn(x, 0, before);
        Check.due("the last step of " + program + ", an invariant is violated", x.step(0), FAILS);
        Check.due("runsLeft(0) of " + program, x.runsLeft(0), 1);
        Check.due("state(0) of " + program, x.state(0), FAILED);
    }

    // ---- terms: invariants

    private static void commitWith(int first, int second, int least, int due) {
        CellTransactions x = new CellTransactions();
        x.setCell(0, first);
        x.setCell(5, second);
        Check.due("addInvariant(0, 5, " + least + ")", x.addInvariant(0, 5, least), 1);
        Check.due("step(0) with " + first + " + " + second + ", due " + least, x.step(0), due);
    }

    private static void invariantBounds() {
        commitWith(50, 49, 99, COMMITTED);
        commitWith(50, 48, 99, FAILS);
        commitWith(99, 0, 99, COMMITTED);
        commitWith(99, -1, 99, FAILS);
        commitWith(99, 99, 99, COMMITTED);
        commitWith(-50, -49, -99, COMMITTED);
        commitWith(-99, 0, -99, COMMITTED);
        // the sum is a demand's measure, not a value that would be clamped
        commitWith(-50, -50, -99, FAILS);
        commitWith(-99, -99, -99, FAILS);
        commitWith(0, 0, 0, COMMITTED);
        commitWith(0, -1, 0, FAILS);
        commitWith(-3, 3, 0, COMMITTED);
    }

    private static void fourthInvariantCounts() {
        for (int violated = 0; violated < 4; violated++) {
            CellTransactions x = new CellTransactions();
            for (int k = 0; k < 4; k++) {
                Check.due("addInvariant number " + k, x.addInvariant(k, k, k == violated ? 1 : 0), k + 1);
            }
            Check.due("addInvariant, the fifth", x.addInvariant(4, 4, -99), FULL);
            Check.due("step(0), invariant " + violated + " is violated", x.step(0), FAILS);
            x.undo();
            x.setCell(violated, 1);
            Check.due("step(0), invariant " + violated + " is no more", x.step(0), COMMITTED);
        }
        // the fifth, which was refused, demands nothing
        CellTransactions x = new CellTransactions();
        for (int k = 0; k < 4; k++) {
            x.addInvariant(k, k, 0);
        }
        Check.due("addInvariant, the fifth", x.addInvariant(4, 4, 99), FULL);
        Check.due("step(0)", x.step(0), COMMITTED);
    }

    // ---- terms: setup text

    private static void textOfSixtySigns() {
        String setup = "M987654t2" + "+1".repeat(24) + "w0.";
        CellTransactions x = new CellTransactions();
        for (int k = 0; k < 60; k++) {
            Check.due("append at " + k, x.append(setup.charAt(k)), k + 1);
        }
        Check.due("append of the sign behind sixty", x.append('t'), FULL);
        Check.due("errorPosition() of sixty signs", x.errorPosition(), NONE);
        Check.due("load() of sixty signs", x.load(), 1);
        Check.due("run(0) by all of them", x.run(0), 25);
        Check.due("value(0)", x.value(0), 124);
        Check.due("clearText()", x.clearText(), 60);
        // 59 signs that are a setup, and one that makes the text none
        Check.type(x, "M987654t2" + "+1".repeat(24) + "!.");
        Check.due("errorPosition() of 59 signs", x.errorPosition(), NONE);
        Check.due("append of the sixtieth", x.append('.'), 60);
        Check.due("errorPosition() of the sixtieth", x.errorPosition(), 59);
        Check.due("load()", x.load(), NOT_POSSIBLE);
    }

    private static void longestProgram() {
        CellTransactions x = Check.loaded("M000000t1" + "{}".repeat(25) + ".");
        for (int k = 0; k < 49; k++) {
            Check.due("position(0)", x.position(0), k);
            Check.goOn(x, 0, 1);
        }
        Check.due("position(0) of the fiftieth token", x.position(0), 49);
        Check.due("step(0)", x.step(0), COMMITTED);
        x = Check.loaded("M000000t1(((" + "!".repeat(41) + "|)|)|).");
        Check.due("run(0) of fifty tokens, seven of which come", x.run(0), 7);
        x = Check.loaded("M000000t1" + "{}".repeat(25) + ".");
        Check.due("outcomeCount() of fifty tokens", x.outcomeCount(), 1);
        Check.due("canDeadlock() of fifty tokens", x.canDeadlock(), 0);
        x = Check.loaded("M000000t1" + "{}".repeat(23) + "(|)!.");
        Check.due("canDeadlock() when the fiftieth retries", x.canDeadlock(), 1);
        Check.due("run(0) to the fiftieth", x.run(0), 49);
        Check.due("position(0) of the fiftieth", x.position(0), 49);
    }

    private static void firstErrorStays() {
        errorIn("\0", 0);
        errorIn(String.valueOf((char) 255), 0);
        errorIn("M".repeat(60), 1);
        errorIn("M0M000000t1.", 2);
        errorIn("M000000t1((((|)|)|)|).", 12);
        errorIn("M000000t1.t1.t1.t1.", 16);
        errorIn("M000000t1.t3.t0.", 11);
        errorIn("M000000t1r6w6.", 10);
        errorIn("M000000t2{(.|)}.", 11);
    }

    private static void errorIn(String text, int due) {
        CellTransactions x = new CellTransactions();
        for (int k = 0; k < text.length(); k++) {
            x.append(text.charAt(k));
            int whole = text.charAt(k) == '.' ? NONE : k + 1;
            Check.due("errorPosition() of " + text + " until " + k, x.errorPosition(), k < due ? whole : due);
        }
        Check.due("load() of " + text, x.load(), NOT_POSSIBLE);
    }

    private static void observationsAfterLoad() {
        CellTransactions x = Check.loaded("M500000t1.");
        x.observe(0, 5);
        x.observe(1, 3);
        Check.due("possibleOutcomes()", x.possibleOutcomes(), 0);
        Check.due("load()", x.load(), 1);
        Check.due("possibleOutcomes() after load", x.possibleOutcomes(), 0);
        x.clearText();
        Check.type(x, "M530000t1.");
        Check.due("load()", x.load(), 1);
        Check.due("possibleOutcomes() of the other setup", x.possibleOutcomes(), 1);
        Check.due("observe is the third", x.observe(0, 5), 3);
    }

    // ---- run

    /** A thread after some steps, the first of which read a cell whose version has changed since. */
    private static CellTransactions outOfDate(String setup, int steps) {
        CellTransactions x = Check.loaded(setup);
        Check.goOn(x, 0, steps);
        x.setCell(0, 0);
        return x;
    }

    private static void sixtySteps() {
        String setup = "M000000t1r0" + "{}".repeat(24) + ".";
        CellTransactions x = outOfDate(setup, 39);
        Check.due("run(0): 10 steps and 49", x.run(0), 59);
        Check.due("state(0) after 59 steps", x.state(0), DONE);
        x = outOfDate(setup, 38);
        Check.due("run(0): 11 steps and 49", x.run(0), 60);
        Check.due("state(0) after 60 steps", x.state(0), DONE);
        Check.due("restarts(0)", x.restarts(0), 1);
        x = outOfDate(setup, 37);
        Check.due("run(0): 12 steps and 48 of 49", x.run(0), 60);
        Check.due("state(0), one step is missing", x.state(0), READY);
        Check.due("position(0), one step is missing", x.position(0), 48);
        Check.due("runsLeft(0)", x.runsLeft(0), 1);
        Check.due("readSet(0)", x.readSet(0), 1);
        Check.due("undo() of a run of sixty steps", x.undo(), 13);
        Check.due("position(0) before it", x.position(0), 37);
        Check.due("restarts(0) before it", x.restarts(0), 0);
        Check.due("run(0) again", x.run(0), 60);
        Check.due("step(0), the sixty-first", x.step(0), COMMITTED);
    }

    private static void sixtiethStepEnds() {
        String waits = "M000000t1r0" + "{}".repeat(23) + "!.";
        CellTransactions x = outOfDate(waits, 36);
        Check.due("run(0): 12 steps and 48", x.run(0), 60);
        Check.due("state(0): the sixtieth waits", x.state(0), WAITING);
        x = outOfDate(waits, 35);
        Check.due("run(0): 13 steps and 47", x.run(0), 60);
        Check.due("state(0), one step is missing", x.state(0), READY);
        Check.due("step(0)", x.step(0), WAITS);
        String fails = "M000000t1r0" + "{}".repeat(24) + ".";
        x = outOfDate(fails, 38);
        x.addInvariant(1, 1, 1);
        Check.due("run(0): 11 steps and 49", x.run(0), 60);
        Check.due("state(0): the sixtieth fails", x.state(0), FAILED);
        x = outOfDate(fails, 37);
        x.addInvariant(1, 1, 1);
        Check.due("run(0): 12 steps and 48", x.run(0), 60);
        Check.due("state(0), one step is missing", x.state(0), READY);
        Check.due("step(0)", x.step(0), FAILS);
    }

    // ---- undo

    private static void fifteenActions() {
        for (int actions = 13; actions <= 16; actions++) {
            CellTransactions x = new CellTransactions();
            for (int k = 1; k <= actions; k++) {
                x.setCell(0, k);
            }
            int remembered = Math.min(actions, 14);
            for (int k = remembered - 1; k >= 0; k--) {
                Check.due("undo() after " + actions, x.undo(), k);
            }
            Check.due("undo() of none after " + actions, x.undo(), NOT_POSSIBLE);
            Check.due("value(0) after " + actions, x.value(0), 100 + actions - remembered);
            Check.due("version(0) after " + actions, x.version(0), actions - remembered);
        }
    }

    /** Whatever the fifteenth action is, it pushes out the oldest state; and whatever the first was, it is gone. */
    private static void fifteenActionsOfEachKind() {
        for (int kind = 0; kind < 4; kind++) {
            CellTransactions x = Check.loaded("M000000t2+1+1+1w1.");
            action(x, kind);
            for (int k = 0; k < 13; k++) {
                x.setCell(0, k);
            }
            action(x, kind);
            for (int k = 13; k >= 0; k--) {
                Check.due("undo() with actions of kind " + kind, x.undo(), k);
            }
            Check.due("undo() of none with kind " + kind, x.undo(), NOT_POSSIBLE);
            Check.due("version(0) with kind " + kind, x.version(0), 0);
            Check.due("position(0) with kind " + kind, x.position(0), kind == 0 ? 1 : 0);
            Check.due("runsLeft(0) with kind " + kind, x.runsLeft(0), kind == 1 ? 1 : 2);
            Check.due("value(2) with kind " + kind, x.value(2), kind == 2 ? 107 : 100);
            Check.due("addInvariant(0, 0, 0) with kind " + kind, x.addInvariant(0, 0, 0), kind == 3 ? 2 : 1);
        }
    }

    private static void action(CellTransactions x, int kind) {
        switch (kind) {
            case 0 -> Check.due("step(0)", x.step(0), WENT_ON);
            case 1 -> Check.due("run(0)", x.run(0), 4);
            case 2 -> Check.due("setCell(2, 7)", x.setCell(2, 7) > 0 ? 1 : 0, 1);
            default -> Check.due("addInvariant(1, 1, 0)", x.addInvariant(1, 1, 0) > 0 ? 1 : 0, 1);
        }
    }

    /** Wherever the remembered states were forgotten, fourteen can be remembered anew, and all of them are new ones. */
    private static void fifteenActionsAfterForgetting() {
        for (int before = 0; before <= 29; before++) {
            CellTransactions x = Check.loaded("M000000t1.");
            x.save(0);
            for (int k = 0; k < before; k++) {
                x.setCell(1, 9);
            }
            if (before % 2 == 0) {
                Check.due("load() after " + before, x.load(), 1);
            } else {
                Check.due("restore(0) after " + before, x.restore(0), 0);
            }
            Check.due("undo() of none after " + before, x.undo(), NOT_POSSIBLE);
            for (int k = 1; k <= 15; k++) {
                x.setCell(0, k);
            }
            for (int k = 13; k >= 0; k--) {
                Check.due("undo() after " + before + " and fifteen", x.undo(), k);
                Check.due("value(0) after " + before + " and fifteen", x.value(0), 101 + k);
            }
            Check.due("undo() of none after " + before + " and fifteen", x.undo(), NOT_POSSIBLE);
            Check.due("value(1) after " + before + " and fifteen", x.value(1), 100);
        }
    }

    // ---- serial schedules

    private static void nobodyAbleToRun() {
        CellTransactions x = Check.loaded("M300000t1+1w0.t1+2w1x.");
        x.run(0);
        x.run(1);
        Check.due("state(0)", x.state(0), DONE);
        Check.due("state(1)", x.state(1), FAILED);
        Check.due("outcomeCount() of the one empty schedule", x.outcomeCount(), 1);
        Check.due("canDeadlock()", x.canDeadlock(), 0);
        Check.due("greatestOutcome(0)", x.greatestOutcome(0), 101);
        Check.due("greatestOutcome(1)", x.greatestOutcome(1), 100);
        x.observe(0, 1);
        Check.due("possibleOutcomes()", x.possibleOutcomes(), 1);
        x.observe(1, 2);
        Check.due("possibleOutcomes()", x.possibleOutcomes(), 0);
    }

    private static void thirdThreadBlocked() {
        for (int last = 0; last < 3; last++) {
            String waits = "t1r0?1w" + (3 + last) + ".";
            String setup = last == 0 ? waits + "t1.t1." : last == 1 ? "t1." + waits + "t1." : "t1.t1." + waits;
            CellTransactions x = Check.loaded("M000000" + setup);
            Check.due("canDeadlock(): thread " + last + " alone is blocked", x.canDeadlock(), 1);
            Check.due("outcomeCount(): thread " + last + " alone is blocked", x.outcomeCount(), 1);
            setup = last == 0 ? waits + "t1.t1+1w0." : last == 1 ? "t1+1w0." + waits + "t1." : "t1.t1+1w0." + waits;
            x = Check.loaded("M000000" + setup);
            Check.due("canDeadlock(): thread " + last + " is blocked for a while", x.canDeadlock(), 0);
            Check.due("outcomeCount(): thread " + last + " is blocked for a while", x.outcomeCount(), 1);
            Check.due("greatestOutcome: thread " + last + " has run", x.greatestOutcome(3 + last), 101);
        }
        // all three are blocked
        CellTransactions x = Check.loaded("M000000t1r0?1.t1r1?1.t1r2?1.");
        Check.due("canDeadlock() of three", x.canDeadlock(), 1);
        x.setCell(0, 1);
        x.setCell(1, 1);
        Check.due("canDeadlock() of the third", x.canDeadlock(), 1);
        x.setCell(2, 1);
        Check.due("canDeadlock() of none", x.canDeadlock(), 0);
    }

    private static void deadlockThatIsNoMore() {
        CellTransactions x = Check.loaded("M100000t1r0?1.t1w0.");
        Check.due("outcomeCount() with a deadlock among two", x.outcomeCount(), 2);
        Check.due("canDeadlock() with a deadlock among two", x.canDeadlock(), 1);
        x.run(0);
        Check.due("canDeadlock() of the one that is left", x.canDeadlock(), 0);
        Check.due("outcomeCount() of the one that is left", x.outcomeCount(), 1);
        x = Check.loaded("M100000t1w0.t1r0?1.");
        Check.due("canDeadlock() with the threads in the other order", x.canDeadlock(), 1);
        x.run(1);
        Check.due("canDeadlock() of the one that is left", x.canDeadlock(), 0);
    }

    // ---- scripts

    private static void script(CellTransactions x, int n, long script, int due) {
        Check.due("runScript(" + n + ", " + script + ")", x.runScript(n, script), due);
    }

    private static void scriptsOfThreeThreads() {
        CellTransactions x = Check.loaded("M000000t1.t1!.t1x.");
        script(x, 2, 121223, NONE);
        script(x, 1, 131, 0);
        script(x, 1, 220, NONE);
        script(x, 1, 230, 0);
        script(x, 1, 520, NONE);
        script(x, 1, 530, 0);
        script(x, 3, 101111121, NONE);
        script(x, 4, 101202111211L, NONE);
        // a step of a thread that is done, waits or has failed
        script(x, 2, 101101, 1);
        script(x, 2, 111111, 1);
        script(x, 2, 121121, 1);
        x.step(0);
        x.step(1);
        x.step(2);
        script(x, 1, 101, 0);
        script(x, 1, 111, 0);
        script(x, 1, 121, 0);
        // with one thread, and with two
        x = new CellTransactions();
        script(x, 1, 101, NONE);
        script(x, 1, 111, 0);
        script(x, 1, 500, NONE);
        script(x, 1, 510, 0);
        x = Check.loaded("M000000t1.t1.");
        script(x, 1, 111, NONE);
        script(x, 1, 121, 0);
        script(x, 1, 210, NONE);
        script(x, 1, 220, 0);
    }

    private static void scriptsOfNineSteps() {
        // nine steps commit, or would be one too many
        script(Check.loaded("M000000t1+1+1+1+1+1+1+1+1w0."), 3, 109202308, NONE);
        script(Check.loaded("M000000t1+1+1+1+1+1+1+1w0."), 1, 109, 0);
        script(Check.loaded("M000000t1+1+1+1+1+1+1+1w0."), 3, 108202307, NONE);
        // the second run goes on where the first ended
        script(Check.loaded("M000000t2r0+1w0."), 2, 106302, NONE);
        // 36 steps are the most that a script has
        script(Check.loaded("M000000t1" + "{}".repeat(19) + "."), 4, 109109109109L, NONE);
        script(Check.loaded("M000000t1" + "{}".repeat(18) + "."), 4, 109109109109L, NONE);
        script(Check.loaded("M000000t1" + "{}".repeat(17) + "."), 4, 109109109109L, 3);
    }

    private static void scriptsThatFailLate() {
        CellTransactions x = Check.loaded("M000009t1.");
        script(x, 4, 359359359359L, NONE);
        script(x, 4, 359359359358L, 3);
        script(x, 3, 359359358, 2);
        script(x, 2, 359358, 1);
        script(x, 1, 358, 0);
        script(x, 1, 359, NONE);
        // nines and zeros on both sides of the number of digits
        script(x, 1, 0, 0);
        script(x, 1, 999, 0);
        script(x, 1, 1000, CellTransactions.BAD_VALUE);
        script(x, 1, 359359, CellTransactions.BAD_VALUE);
        script(x, 3, 359359359359L, CellTransactions.BAD_VALUE);
        script(x, 4, 1359359359359L, CellTransactions.BAD_VALUE);
    }

    // ---- observations and slots

    private static void observationBounds() {
        int[] ends = {-99, 99};
        int[] cells = {0, 5};
        for (int c : cells) {
            for (int v : ends) {
                CellTransactions x = new CellTransactions();
                Check.due("observe(" + c + ", " + v + ")", x.observe(c, v), 1);
                Check.due("possibleOutcomes() while it is 0", x.possibleOutcomes(), 0);
                x.setCell(c, v);
                Check.due("possibleOutcomes() while it is " + v, x.possibleOutcomes(), 1);
                x.setCell(c, v < 0 ? v + 1 : v - 1);
                Check.due("possibleOutcomes() while it is beside " + v, x.possibleOutcomes(), 0);
            }
        }
    }

    private static void fiveObservations() {
        // the wrong one is at each place of five: only the first is replaced
        for (int wrong = 0; wrong < 5; wrong++) {
            CellTransactions x = new CellTransactions();
            for (int k = 0; k < 5; k++) {
                Check.due("observe, number " + k, x.observe(k, k == wrong ? 1 : 0), Math.min(k + 1, 4));
                boolean stored = wrong <= k && wrong > k - 4;
                Check.due("possibleOutcomes() after " + k + ", wrong is " + wrong, x.possibleOutcomes(), stored ? 0 : 1);
            }
        }
        // every fourth of many is wrong: one of the last four always is, until four right ones have come
        CellTransactions x = new CellTransactions();
        for (int k = 0; k < 13; k++) {
            x.observe(k % 6, k % 4 == 0 ? 1 : 0);
            Check.due("possibleOutcomes() after number " + k + " of 13", x.possibleOutcomes(), 0);
        }
        for (int k = 1; k <= 4; k++) {
            Check.due("observe of a right one", x.observe(0, 0), 4);
            Check.due("possibleOutcomes() after " + k + " right ones", x.possibleOutcomes(), k < 4 ? 0 : 1);
        }
    }

    private static void oneSlotIsEmpty() {
        for (int slot = 0; slot < 2; slot++) {
            CellTransactions x = new CellTransactions();
            x.setCell(0, 5);
            Check.due("save(" + slot + ")", x.save(slot), 0);
            Check.due("restore of the other", x.restore(1 - slot), NOT_POSSIBLE);
            x.setCell(0, 6);
            Check.due("restore(" + slot + ")", x.restore(slot), 0);
            Check.due("value(0)", x.value(0), 105);
            Check.due("restore of the other", x.restore(1 - slot), NOT_POSSIBLE);
        }
        // a thread on each side of being done
        CellTransactions x = Check.loaded("M000000t1.t1.t1.");
        for (int done = 0; done <= 3; done++) {
            Check.due("save(1) with threads that are done", x.save(1), done);
            Check.due("restore(1) with threads that are done", x.restore(1), done);
            Check.due("step of one more", x.step(done), done < 3 ? COMMITTED : NO_SUCH_INDEX);
        }
    }
}
