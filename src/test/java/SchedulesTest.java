/** Promises 23 to 26 and 28: the outcomes of serial schedules, and observations of them. */
public final class SchedulesTest {
    private static final int NO_SUCH_INDEX = CellTransactions.NO_SUCH_INDEX;
    private static final int BAD_VALUE = CellTransactions.BAD_VALUE;

    public static void main(String[] args) {
        oneSchedule();
        ordersThatMatter();
        blockedThreads();
        readOnlyCommitsDoNotUnblock();
        failedThreads();
        failedAndBlockedAreInTheOutcome();
        runsAreOutcomesOnlyByTheirTraces();
        invariantsInSchedules();
        alternativesInSchedules();
        fromThePresentState();
        sixTransactions();
        schedulesChangeNothing();
        eachCallLooksAnew();
        greatestOutcomes();
        observations();
        lastFourObservations();
        Check.finish("SchedulesTest");
    }

    private static void outcomes(String when, CellTransactions x, int count, int deadlock) {
        Check.due(when + ": outcomeCount()", x.outcomeCount(), count);
        Check.due(when + ": canDeadlock()", x.canDeadlock(), deadlock);
    }

    private static void outcomes(String setup, int count, int deadlock) {
        outcomes(setup, Check.loaded(setup), count, deadlock);
    }

    private static void oneSchedule() {
        outcomes("M000000t1.", 1, 0);
        outcomes("M000000t2r0+1w0.", 1, 0);
        CellTransactions x = Check.loaded("M000000t2r0+3w0.");
        Check.due("greatestOutcome(0) after both runs", x.greatestOutcome(0), 106);
        Check.due("greatestOutcome(1)", x.greatestOutcome(1), 100);
        outcomes("M000000t1!.", 1, 1);
        outcomes("M000000t1x.", 1, 0);
    }

    private static void ordersThatMatter() {
        outcomes("M000000t1r0w1.t1r1+1w0.", 2, 0);
        outcomes("M000000t1+1w0.t1+2w0.t1+3w0.", 3, 0);
        outcomes("M000000t1r0+1w0.t1r0+2w0.t1r0+3w0.", 1, 0);
        // 1, 2: (1 + 1) or (0 + 1); the second run of the first comes before or behind
        CellTransactions x = Check.loaded("M000000t2r0w1+1w0.t1r1+5w0.");
        Check.due("outcomeCount()", x.outcomeCount(), 3);
        Check.due("greatestOutcome(0)", x.greatestOutcome(0), 107);
        Check.due("greatestOutcome(1)", x.greatestOutcome(1), 106);
    }

    private static void blockedThreads() {
        // the consumer is blocked until the producer has written
        outcomes("M000000t1r0?1-1w0.t1+1w0.", 1, 0);
        // one consumer is left over, either of them
        outcomes("M000000t1r0?1-1w0.t1r0?1-1w0.t1+1w0.", 2, 1);
        outcomes("M000000t2r0?1-1w0.t1+1w0.", 1, 1);
        outcomes("M000000t2r0?1-1w0.t2r0+1w0.", 1, 0);
        // any write unblocks, of whatever cell, and the transaction is tried again
        CellTransactions x = Check.loaded("M000000t1r0?1w1.t1+1w2.t1w5r2w0.");
        outcomes("unblocked by other cells", x, 2, 1);
        Check.due("greatestOutcome(1)", x.greatestOutcome(1), 101);
        // both block each other
        outcomes("M000000t1r0?1w1.t1r1?1w0.", 1, 1);
        // a schedule that is a deadlock and one that is not
        outcomes("M100000t1r0?1.t1w0.", 2, 1);
    }

    private static void readOnlyCommitsDoNotUnblock() {
        // thread 0 waits for a cell that only thread 1 could change, and thread 1 writes nothing
        outcomes("M000000t1r0?1.t1r0.", 1, 1);
        // a block that is abandoned leaves an empty write log
        outcomes("M000000t1r0?1.t1{+1w0x}.", 1, 1);
        // writing without changing a value does unblock, though for nothing
        outcomes("M000000t1r0?1.t1w0.", 1, 1);
    }

    private static void failedThreads() {
        outcomes("M000000t1r0?1x.t1+1w0.", 1, 0);
        // it fails only if it comes first
        CellTransactions x = Check.loaded("M000000t2(r0?1w1|x).t1+1w0.");
        outcomes("fails if first", x, 2, 0);
        Check.due("greatestOutcome(1)", x.greatestOutcome(1), 101);
        // what fails has no effect and unblocks nobody
        outcomes("M000000t1r0?1.t1+1w0x.", 1, 1);
    }

    private static void failedAndBlockedAreInTheOutcome() {
        // the same values, but another thread has failed: whoever comes second
        outcomes("M000000t1(r0?1x|+1w0).t1(r0?1x|+1w0).", 2, 0);
        // the same values, but another thread is blocked
        outcomes("M100000t1r0?1w1-1w0.t1r0?1w1-1w0.", 2, 1);
        // the same values with nobody failed or blocked are the same outcome
        outcomes("M100000t1r0+1w0.t1r0+1w0.", 1, 0);
    }

    private static void runsAreOutcomesOnlyByTheirTraces() {
        // blocked with two runs left, or with one: the same outcome, as a run that commits has changed nothing else
        outcomes("M100000t2r0?1.t1w0.", 2, 1);
    }

    private static void invariantsInSchedules() {
        CellTransactions x = Check.loaded("M000000t1+5w0.t1r0-9w0.");
        x.addInvariant(0, 0, -8);
        // -4 is allowed, -9 is not; when the second comes first it fails
        outcomes("one of two orders violates", x, 2, 0);
        Check.due("greatestOutcome(0)", x.greatestOutcome(0), 105);
        x.addInvariant(5, 5, 1);
        outcomes("a violated invariant fails all", x, 1, 0);
        Check.due("greatestOutcome(0)", x.greatestOutcome(0), 100);
        x = Check.loaded("M000000t1r0.t1+1w5.");
        x.addInvariant(5, 5, 1);
        outcomes("an empty write log is checked, too", x, 2, 0);
    }

    private static void alternativesInSchedules() {
        CellTransactions x = Check.loaded("M000000t1(r0?1w1|+7w2).t1+3w0.");
        outcomes("either branch", x, 2, 0);
        Check.due("greatestOutcome(1)", x.greatestOutcome(1), 103);
        Check.due("greatestOutcome(2)", x.greatestOutcome(2), 107);
        x = Check.loaded("M000000t1(+9w0{w1!}|w2?0).");
        Check.due("greatestOutcome(0): the first branch left nothing", x.greatestOutcome(0), 100);
    }

    private static void fromThePresentState() {
        CellTransactions x = Check.loaded("M000000t2r0+1w0.t1r1?1w2.t1x.");
        outcomes("at first", x, 1, 1);
        x.run(1);
        Check.due("state(1)", x.state(1), CellTransactions.WAITING);
        outcomes("a waiting thread starts anew", x, 1, 1);
        x.setCell(1, 5);
        outcomes("now it can go on", x, 1, 0);
        Check.due("greatestOutcome(2)", x.greatestOutcome(2), 105);
        Check.goOn(x, 0, 2);
        x.setCell(0, 90);
        Check.due("greatestOutcome(0): positions and logs are forgotten", x.greatestOutcome(0), 192);
        outcomes("positions and logs are forgotten", x, 1, 0);
        x.run(0);
        Check.due("greatestOutcome(0) with one run left", x.greatestOutcome(0), 192);
        x.run(0);
        Check.due("greatestOutcome(0) with no run left", x.greatestOutcome(0), 192);
        x.setCell(0, 1);
        Check.due("greatestOutcome(0) of a thread that is done", x.greatestOutcome(0), 101);
        x.run(2);
        outcomes("failed at present", x, 1, 0);
        // a failed thread keeps its runs, but does not run again
        x = Check.loaded("M000000t2+1w0.");
        x.addInvariant(1, 1, 1);
        x.run(0);
        Check.due("state(0)", x.state(0), CellTransactions.FAILED);
        x.setCell(1, 1);
        Check.due("greatestOutcome(0)", x.greatestOutcome(0), 100);
        // a thread that waits is tried even when its cells are as they were
        x = Check.loaded("M000000t1r0?1w1.t1r0.");
        x.run(0);
        outcomes("still to be blocked", x, 1, 1);
        // versions do not matter
        x = Check.loaded("M000000t1r0+1w1.");
        x.step(0);
        x.setCell(0, 0);
        outcomes("a changed version", x, 1, 0);
        Check.due("greatestOutcome(1)", x.greatestOutcome(1), 101);
    }

    private static void sixTransactions() {
        // cells 0 to 2 tell who came last, last but one and last but two: all of 27 but the three with one thread thrice
        CellTransactions x = Check.loaded("M000000t2r1w2r0w1r5+1w0.t2r1w2r0w1r5+2w0.t2r1w2r0w1r5+3w0.");
        outcomes("six in a row", x, 24, 0);
        x.observe(0, 3);
        Check.due("possibleOutcomes(): eight end with thread 2", x.possibleOutcomes(), 8);
        x.observe(1, 3);
        Check.due("possibleOutcomes(): two end with both its runs", x.possibleOutcomes(), 2);
        Check.due("greatestOutcome(2)", x.greatestOutcome(2), 103);
        x.run(0);
        outcomes("five in a row", x, outcomesOfFive(), 0);
        outcomes("M000000t2+1w0.t2+2w0.t2+3w0.", 3, 0);
    }

    /** How many threes of 0, 1, 2 hold 0 once at the most, and 1 and 2 twice at the most. */
    private static int outcomesOfFive() {
        int count = 0;
        for (int three = 0; three < 27; three++) {
            int[] held = new int[3];
            held[three % 3]++;
            held[three / 3 % 3]++;
            held[three / 9]++;
            count += held[0] <= 1 && held[1] <= 2 && held[2] <= 2 ? 1 : 0;
        }
        return count;
    }

    private static void schedulesChangeNothing() {
        CellTransactions x = Check.loaded("M100000t2r0w1+1w0.t2r1+1w0!.");
        Check.goOn(x, 0, 2);
        x.run(1);
        x.addInvariant(0, 0, 0);
        for (int k = 0; k < 2; k++) {
            Check.due("outcomeCount()", x.outcomeCount(), 1);
            Check.due("canDeadlock()", x.canDeadlock(), 1);
            Check.due("greatestOutcome(0)", x.greatestOutcome(0), 103);
            Check.due("possibleOutcomes()", x.possibleOutcomes(), 1);
            Check.due("value(0)", x.value(0), 101);
            Check.due("version(0)", x.version(0), 0);
            Check.due("state(1)", x.state(1), CellTransactions.WAITING);
            Check.due("restarts(1)", x.restarts(1), 0);
            Check.due("readSet(1)", x.readSet(1), 2);
            Check.due("position(0)", x.position(0), 2);
            Check.due("writeSet(0)", x.writeSet(0), 2);
            Check.due("runsLeft(0)", x.runsLeft(0), 2);
        }
        Check.due("undo()", x.undo(), 3);
    }

    private static void eachCallLooksAnew() {
        CellTransactions x = Check.loaded("M000000t1r0?1.t1r1?1.");
        Check.due("canDeadlock()", x.canDeadlock(), 1);
        x.setCell(0, 1);
        Check.due("canDeadlock(): thread 1 only", x.canDeadlock(), 1);
        x.setCell(1, 1);
        Check.due("canDeadlock(): no more", x.canDeadlock(), 0);
        x.undo();
        Check.due("canDeadlock(): again", x.canDeadlock(), 1);
        x = Check.loaded("M000000t1+1w0.t1+2w0.t1x.");
        Check.due("possibleOutcomes()", x.possibleOutcomes(), 2);
        x.step(2);
        x.run(1);
        Check.due("possibleOutcomes() with one thread left", x.possibleOutcomes(), 1);
        x.clearText();
        Check.type(x, "M000000t1+1w0.t1+2w0.");
        x.load();
        Check.due("greatestOutcome(0) after load", x.greatestOutcome(0), 102);
        Check.due("canDeadlock() after load", x.canDeadlock(), 0);
        Check.due("outcomeCount() after load", x.outcomeCount(), 2);
        x.addInvariant(0, 0, 3);
        Check.due("greatestOutcome(0) under an invariant", x.greatestOutcome(0), 102);
        Check.due("outcomeCount(): thread 0 fails in any order", x.outcomeCount(), 1);
        x.addInvariant(1, 1, 1);
        Check.due("outcomeCount(): all fail", x.outcomeCount(), 1);
    }

    private static void greatestOutcomes() {
        CellTransactions x = Check.loaded("M000000t1r0-5w0.t1(r0?0w1|r1-9w1).");
        Check.due("greatestOutcome(-1)", x.greatestOutcome(-1), NO_SUCH_INDEX);
        Check.due("greatestOutcome(6)", x.greatestOutcome(6), NO_SUCH_INDEX);
        Check.due("greatestOutcome(greatest int)", x.greatestOutcome(Integer.MAX_VALUE), NO_SUCH_INDEX);
        Check.due("greatestOutcome(0)", x.greatestOutcome(0), 95);
        Check.due("greatestOutcome(1)", x.greatestOutcome(1), 100);
        x.setCell(5, -99);
        Check.due("greatestOutcome(5)", x.greatestOutcome(5), 1);
        x.setCell(5, 99);
        Check.due("greatestOutcome(5)", x.greatestOutcome(5), 199);
        x.observe(1, -9);
        Check.due("greatestOutcome(1) does not mind observations", x.greatestOutcome(1), 100);
    }

    private static void observations() {
        CellTransactions x = Check.loaded("M000000t1+1w0.t1+2w0.t1+3w0.");
        Check.due("observe(-1, 0)", x.observe(-1, 0), NO_SUCH_INDEX);
        Check.due("observe(6, 0)", x.observe(6, 0), NO_SUCH_INDEX);
        Check.due("observe(6, 100)", x.observe(6, 100), NO_SUCH_INDEX);
        Check.due("observe(0, 100)", x.observe(0, 100), BAD_VALUE);
        Check.due("observe(0, -100)", x.observe(0, -100), BAD_VALUE);
        Check.due("possibleOutcomes()", x.possibleOutcomes(), 3);
        Check.due("observe(5, 0)", x.observe(5, 0), 1);
        Check.due("possibleOutcomes() that are all so", x.possibleOutcomes(), 3);
        Check.due("observe(0, 2)", x.observe(0, 2), 2);
        Check.due("possibleOutcomes()", x.possibleOutcomes(), 1);
        Check.due("outcomeCount() does not mind observations", x.outcomeCount(), 3);
        Check.due("observe(0, 3)", x.observe(0, 3), 3);
        Check.due("possibleOutcomes() under a contradiction", x.possibleOutcomes(), 0);
        x = Check.loaded("M000000t1r0?1w1-1w0.t1r0?1w1-1w0.t1+1w0.");
        x.observe(1, 1);
        Check.due("outcomes with equal values both count", x.possibleOutcomes(), 2);
        x = new CellTransactions();
        Check.due("observe(0, -99)", x.observe(0, -99), 1);
        Check.due("observe(0, 99)", x.observe(0, 99), 2);
        x.setCell(0, 99);
        Check.due("possibleOutcomes()", x.possibleOutcomes(), 0);
    }

    private static void lastFourObservations() {
        CellTransactions x = new CellTransactions();
        x.observe(0, 7);
        x.observe(1, 0);
        x.observe(1, 0);
        Check.due("observe(2, 0)", x.observe(2, 0), 4);
        Check.due("possibleOutcomes() under all four", x.possibleOutcomes(), 0);
        Check.due("observe(3, 0)", x.observe(3, 0), 4);
        Check.due("possibleOutcomes() without the first", x.possibleOutcomes(), 1);
        x.observe(4, 9);
        Check.due("possibleOutcomes() with 4, 9", x.possibleOutcomes(), 0);
        for (int k = 0; k < 3; k++) {
            x.observe(5, 0);
            Check.due("possibleOutcomes() still", x.possibleOutcomes(), 0);
        }
        Check.due("a refused one replaces none", x.observe(5, 100), BAD_VALUE);
        Check.due("possibleOutcomes() still", x.possibleOutcomes(), 0);
        Check.due("observe(5, 0)", x.observe(5, 0), 4);
        Check.due("possibleOutcomes() without 4, 9", x.possibleOutcomes(), 1);
        x.setCell(5, 1);
        Check.due("possibleOutcomes()", x.possibleOutcomes(), 0);
        x.undo();
        Check.due("undo takes no observation back", x.possibleOutcomes(), 1);
        x.observe(0, 3);
        x.save(0);
        x.restore(0);
        Check.due("restore takes no observation back", x.possibleOutcomes(), 0);
    }
}
