/** Promises 20 to 22: setCell, addInvariant and undo. */
public final class ActionsTest {
    private static final int NO_SUCH_INDEX = CellTransactions.NO_SUCH_INDEX;
    private static final int BAD_VALUE = CellTransactions.BAD_VALUE;
    private static final int NOT_POSSIBLE = CellTransactions.NOT_POSSIBLE;
    private static final int FULL = CellTransactions.FULL;

    public static void main(String[] args) {
        setCell();
        addInvariant();
        invariantsThatWereTakenBack();
        undoEachAction();
        undoWhatAThreadHas();
        undoOpenBlocks();
        undoFourteen();
        undoAndGoOn();
        errorsAreNoActions();
        readingIsNoAction();
        Check.finish("ActionsTest");
    }

    private static void setCell() {
        CellTransactions x = new CellTransactions();
        Check.due("setCell(-1, 0)", x.setCell(-1, 0), NO_SUCH_INDEX);
        Check.due("setCell(6, 0)", x.setCell(6, 0), NO_SUCH_INDEX);
        Check.due("setCell(6, 100)", x.setCell(6, 100), NO_SUCH_INDEX);
        Check.due("setCell(greatest int, 0)", x.setCell(Integer.MAX_VALUE, 0), NO_SUCH_INDEX);
        Check.due("setCell(0, 100)", x.setCell(0, 100), BAD_VALUE);
        Check.due("setCell(0, -100)", x.setCell(0, -100), BAD_VALUE);
        Check.due("setCell(0, least int)", x.setCell(0, Integer.MIN_VALUE), BAD_VALUE);
        Check.due("version(0) after errors", x.version(0), 0);
        Check.due("setCell(0, 99)", x.setCell(0, 99), 1);
        Check.due("setCell(0, -99)", x.setCell(0, -99), 2);
        Check.due("setCell(0, -99) again", x.setCell(0, -99), 3);
        Check.due("setCell(5, 1)", x.setCell(5, 1), 1);
        Check.due("value(0)", x.value(0), 1);
        Check.due("value(5)", x.value(5), 101);
        x.addInvariant(0, 5, 99);
        Check.due("setCell does not look at invariants", x.setCell(0, 3), 4);
        Check.due("value(0)", x.value(0), 103);
    }

    private static void addInvariant() {
        CellTransactions x = new CellTransactions();
        Check.due("addInvariant(-1, 0, 0)", x.addInvariant(-1, 0, 0), NO_SUCH_INDEX);
        Check.due("addInvariant(0, -1, 0)", x.addInvariant(0, -1, 0), NO_SUCH_INDEX);
        Check.due("addInvariant(6, 0, 0)", x.addInvariant(6, 0, 0), NO_SUCH_INDEX);
        Check.due("addInvariant(0, 6, 100)", x.addInvariant(0, 6, 100), NO_SUCH_INDEX);
        Check.due("addInvariant(0, 0, 100)", x.addInvariant(0, 0, 100), BAD_VALUE);
        Check.due("addInvariant(0, 0, -100)", x.addInvariant(0, 0, -100), BAD_VALUE);
        Check.due("addInvariant(0, 5, 99)", x.addInvariant(0, 5, 99), 1);
        Check.due("addInvariant(0, 5, -99)", x.addInvariant(0, 5, -99), 2);
        Check.due("addInvariant(0, 5, -99) again", x.addInvariant(0, 5, -99), 3);
        Check.due("addInvariant(5, 5, 0)", x.addInvariant(5, 5, 0), 4);
        Check.due("addInvariant(5, 5, 0) fifth", x.addInvariant(5, 5, 0), FULL);
        Check.due("addInvariant(5, 6, 0) fifth", x.addInvariant(5, 6, 0), NO_SUCH_INDEX);
        Check.due("addInvariant(5, 5, 100) fifth", x.addInvariant(5, 5, 100), BAD_VALUE);
        Check.due("undo()", x.undo(), 3);
        Check.due("addInvariant(5, 5, 0) fourth again", x.addInvariant(5, 5, 0), 4);
    }

    private static void invariantsThatWereTakenBack() {
        CellTransactions x = new CellTransactions();
        x.addInvariant(0, 0, 1);
        Check.due("outcome under the invariant", x.step(0), CellTransactions.FAILS);
        Check.due("undo()", x.undo(), 1);
        Check.due("undo()", x.undo(), 0);
        x.addInvariant(0, 0, 0);
        Check.due("step(0) under the other", x.step(0), CellTransactions.COMMITTED);
    }

    private static void undoEachAction() {
        CellTransactions x = Check.loaded("M500000t2r0w1?6.t1r1!.");
        Check.due("undo() of nothing", x.undo(), NOT_POSSIBLE);
        x.run(1);
        x.step(0);
        x.setCell(1, 7);
        x.addInvariant(0, 0, 11);
        Check.due("run(0) waits", x.run(0), 2);
        Check.due("undo() of run", x.undo(), 4);
        Check.due("state(0)", x.state(0), CellTransactions.READY);
        Check.due("position(0)", x.position(0), 1);
        Check.due("writeSet(0)", x.writeSet(0), 0);
        Check.due("undo() of addInvariant", x.undo(), 3);
        Check.due("restarts(1)", x.restarts(1), 1);
        Check.due("undo() of setCell", x.undo(), 2);
        Check.due("value(1)", x.value(1), 100);
        Check.due("version(1)", x.version(1), 0);
        Check.due("state(1) waits again", x.state(1), CellTransactions.WAITING);
        Check.due("restarts(1)", x.restarts(1), 0);
        Check.due("readSet(1)", x.readSet(1), 2);
        Check.due("undo() of step", x.undo(), 1);
        Check.due("accumulator(0)", x.accumulator(0), 100);
        Check.due("readSet(0)", x.readSet(0), 0);
        Check.due("undo() of run", x.undo(), 0);
        Check.due("state(1)", x.state(1), CellTransactions.READY);
        Check.due("undo() of nothing", x.undo(), NOT_POSSIBLE);
        Check.due("addInvariant is the first again", x.addInvariant(0, 0, 0), 1);
    }

    private static void undoWhatAThreadHas() {
        CellTransactions x = Check.loaded("M120000t2+3w1({r0w2-9!}|x)+1w0.");
        Check.goOn(x, 0, 7);
        Check.due("step(0) to the second branch", x.step(0), CellTransactions.WENT_ON);
        Check.due("step(0) abandons", x.step(0), CellTransactions.FAILS);
        Check.due("undo()", x.undo(), 8);
        Check.due("undo()", x.undo(), 7);
        Check.due("state(0)", x.state(0), CellTransactions.READY);
        Check.due("position(0)", x.position(0), 7);
        Check.due("accumulator(0)", x.accumulator(0), 92);
        Check.due("openBlocks(0)", x.openBlocks(0), 2);
        Check.due("readSet(0)", x.readSet(0), 1);
        Check.due("writeSet(0)", x.writeSet(0), 6);
        Check.due("seenValue(0, 1)", x.seenValue(0, 1), 103);
        Check.due("seenValue(0, 2)", x.seenValue(0, 2), 101);
        x.setCell(0, 4);
        Check.due("step(0) once more: the alternative was in its first branch again", x.step(0), CellTransactions.WENT_ON);
        Check.due("accumulator(0) as it was remembered", x.accumulator(0), 103);
        Check.due("writeSet(0)", x.writeSet(0), 2);
        // a run that goes down
        x = Check.loaded("M100000t2r0+1w0.");
        x.run(0);
        x.run(0);
        Check.due("undo()", x.undo(), 1);
        Check.due("runsLeft(0)", x.runsLeft(0), 1);
        Check.due("value(0)", x.value(0), 102);
        Check.due("version(0)", x.version(0), 1);
        Check.due("state(0)", x.state(0), CellTransactions.READY);
        Check.due("undo()", x.undo(), 0);
        Check.due("runsLeft(0)", x.runsLeft(0), 2);
        Check.due("value(0)", x.value(0), 101);
    }

    /** What is remembered with open blocks comes back, though other blocks were open in between. */
    private static void undoOpenBlocks() {
        CellTransactions x = Check.loaded("M000000t1+1w1(+1!|+2w2){+4w3x}+8!.");
        Check.goOn(x, 0, 4);
        Check.goOn(x, 0, 4);
        Check.due("position(0) behind the alternative", x.position(0), 9);
        Check.goOn(x, 0, 2);
        Check.due("openBlocks(0) in the nested block", x.openBlocks(0), 1);
        for (int k = 9; k >= 4; k--) {
            Check.due("undo()", x.undo(), k);
        }
        Check.due("position(0) before the retry", x.position(0), 4);
        Check.due("step(0) retries", x.step(0), CellTransactions.WENT_ON);
        Check.due("position(0) in the second branch", x.position(0), 6);
        Check.due("accumulator(0)", x.accumulator(0), 101);
        Check.due("writeSet(0)", x.writeSet(0), 2);
        Check.goOn(x, 0, 6);
        Check.due("position(0) before the abandonment", x.position(0), 12);
        Check.goOn(x, 0, 2);
        Check.due("accumulator(0) behind it", x.accumulator(0), 111);
        Check.due("undo()", x.undo(), 12);
        Check.due("undo()", x.undo(), 11);
        Check.goOn(x, 0, 1);
        Check.due("accumulator(0) is what was remembered", x.accumulator(0), 103);
        Check.due("writeSet(0)", x.writeSet(0), 6);
        Check.due("position(0)", x.position(0), 14);
    }

    private static void undoFourteen() {
        CellTransactions x = new CellTransactions();
        for (int k = 1; k <= 17; k++) {
            x.setCell(0, k);
        }
        for (int k = 13; k >= 0; k--) {
            Check.due("undo()", x.undo(), k);
            Check.due("value(0)", x.value(0), 100 + k + 3);
        }
        Check.due("undo() of what is forgotten", x.undo(), NOT_POSSIBLE);
        Check.due("value(0)", x.value(0), 103);
        x = new CellTransactions();
        for (int k = 1; k <= 14; k++) {
            x.setCell(0, k);
        }
        Check.due("undo() after fourteen", x.undo(), 13);
        for (int k = 12; k >= 0; k--) {
            Check.due("undo()", x.undo(), k);
        }
        Check.due("value(0): all fourteen are taken back", x.value(0), 100);
    }

    private static void undoAndGoOn() {
        CellTransactions x = new CellTransactions();
        x.setCell(0, 1);
        x.setCell(0, 2);
        Check.due("undo()", x.undo(), 1);
        Check.due("setCell(0, 3)", x.setCell(0, 3), 2);
        Check.due("undo() is no action that could be undone", x.undo(), 1);
        Check.due("value(0)", x.value(0), 101);
        Check.due("undo()", x.undo(), 0);
        Check.due("value(0)", x.value(0), 100);
        for (int k = 1; k <= 20; k++) {
            x.setCell(0, k);
        }
        for (int k = 0; k < 5; k++) {
            x.undo();
        }
        for (int k = 31; k <= 36; k++) {
            x.setCell(0, k);
        }
        Check.due("undo(): fourteen again", x.undo(), 13);
        for (int k = 0; k < 5; k++) {
            x.undo();
        }
        Check.due("value(0) before the six", x.value(0), 115);
        for (int k = 7; k >= 0; k--) {
            Check.due("undo()", x.undo(), k);
        }
        Check.due("value(0)", x.value(0), 107);
        Check.due("undo()", x.undo(), NOT_POSSIBLE);
    }

    private static void errorsAreNoActions() {
        CellTransactions x = Check.loaded("M000000t1!.");
        x.run(0);
        x.step(0);
        x.run(0);
        x.step(1);
        x.run(-1);
        x.setCell(6, 0);
        x.setCell(0, 100);
        x.addInvariant(6, 0, 0);
        x.addInvariant(0, 0, 100);
        for (int k = 0; k < 4; k++) {
            x.addInvariant(0, 0, -1);
        }
        x.addInvariant(0, 0, -1);
        Check.due("undo()", x.undo(), 4);
    }

    private static void readingIsNoAction() {
        CellTransactions x = Check.loaded("M000000t1r0.");
        x.step(0);
        x.undo();
        x.append('x');
        x.clearText();
        x.errorPosition();
        x.load();
        x.outcomeCount();
        x.possibleOutcomes();
        x.canDeadlock();
        x.greatestOutcome(0);
        x.runScript(1, 101);
        x.observe(0, 0);
        x.save(0);
        Check.due("undo()", x.undo(), NOT_POSSIBLE);
    }
}
