/** Promises 29 and 30: save and restore. */
public final class SlotsTest {
    private static final int NO_SUCH_INDEX = CellTransactions.NO_SUCH_INDEX;
    private static final int NOT_POSSIBLE = CellTransactions.NOT_POSSIBLE;

    public static void main(String[] args) {
        refusals();
        threadsThatAreDone();
        wholeState();
        slotsAreApart();
        slotKeepsItsState();
        remembersAndForgets();
        Check.finish("SlotsTest");
    }

    private static void refusals() {
        CellTransactions x = new CellTransactions();
        int[] wrong = {-1, 2, 3, Integer.MIN_VALUE, Integer.MAX_VALUE};
        for (int slot : wrong) {
            Check.due("save(" + slot + ")", x.save(slot), NO_SUCH_INDEX);
            Check.due("restore(" + slot + ")", x.restore(slot), NO_SUCH_INDEX);
        }
        Check.due("restore(0)", x.restore(0), NOT_POSSIBLE);
        Check.due("restore(1)", x.restore(1), NOT_POSSIBLE);
        x.setCell(0, 1);
        Check.due("restore(1) refused", x.restore(1), NOT_POSSIBLE);
        Check.due("undo() after a refused restore", x.undo(), 0);
    }

    private static void threadsThatAreDone() {
        CellTransactions x = Check.loaded("M000000t1.t1!.t2.");
        Check.due("save(0)", x.save(0), 0);
        x.run(0);
        x.run(1);
        Check.due("save(1): a waiting thread is not done", x.save(1), 1);
        x.run(2);
        Check.due("save(0): a run is left", x.save(0), 1);
        x.run(2);
        Check.due("save(0)", x.save(0), 2);
        Check.due("restore(1)", x.restore(1), 1);
        Check.due("runsLeft(2)", x.runsLeft(2), 2);
        Check.due("restore(0)", x.restore(0), 2);
        Check.due("runsLeft(2)", x.runsLeft(2), 0);
        x = Check.loaded("M000000t1x.t1.t1.");
        x.run(0);
        Check.due("save(0): a failed thread is not done", x.save(0), 0);
        x.run(1);
        x.run(2);
        Check.due("save(0)", x.save(0), 2);
        x.clearText();
        Check.type(x, "M000000t1.");
        x.load();
        Check.due("save(0): threads of an earlier setup do not count", x.save(0), 0);
    }

    private static void wholeState() {
        CellTransactions x = Check.loaded("M500000t2+1w1({r0w2!}|w3!).t1r3!.");
        x.addInvariant(1, 2, 0);
        x.setCell(4, 44);
        x.run(1);
        x.setCell(3, 1);
        x.run(1);
        Check.goOn(x, 0, 7);
        x.save(1);
        Check.due("step(0)", x.step(0), CellTransactions.WENT_ON);
        Check.due("step(0)", x.step(0), CellTransactions.WAITS);
        x.setCell(0, 8);
        x.setCell(3, 9);
        x.setCell(4, 45);
        x.addInvariant(0, 0, 99);
        Check.due("restore(1)", x.restore(1), 0);
        Check.due("value(0)", x.value(0), 105);
        Check.due("version(0)", x.version(0), 0);
        Check.due("value(4)", x.value(4), 144);
        Check.due("version(4)", x.version(4), 1);
        Check.due("state(0)", x.state(0), CellTransactions.READY);
        Check.due("position(0)", x.position(0), 9);
        Check.due("accumulator(0)", x.accumulator(0), 101);
        Check.due("readSet(0)", x.readSet(0), 1);
        Check.due("writeSet(0)", x.writeSet(0), 2);
        Check.due("openBlocks(0)", x.openBlocks(0), 1);
        Check.due("restarts(0)", x.restarts(0), 0);
        Check.due("state(1)", x.state(1), CellTransactions.WAITING);
        Check.due("restarts(1)", x.restarts(1), 1);
        Check.due("addInvariant is the second again", x.addInvariant(0, 0, 0), 2);
        Check.goOn(x, 0, 1);
        Check.due("step(0): still in the second branch", x.step(0), CellTransactions.WAITS);
    }

    private static void slotsAreApart() {
        CellTransactions x = new CellTransactions();
        x.setCell(0, 1);
        x.save(0);
        x.setCell(0, 2);
        x.save(1);
        x.setCell(0, 3);
        x.restore(0);
        Check.due("value(0) of slot 0", x.value(0), 101);
        x.restore(1);
        Check.due("value(0) of slot 1", x.value(0), 102);
        x.setCell(0, 4);
        x.save(0);
        x.restore(1);
        x.restore(0);
        Check.due("value(0) of slot 0 saved over", x.value(0), 104);
        Check.due("version(0)", x.version(0), 3);
    }

    private static void slotKeepsItsState() {
        CellTransactions x = Check.loaded("M000000t2r0+1w0.");
        Check.goOn(x, 0, 1);
        x.save(0);
        for (int k = 0; k < 3; k++) {
            Check.due("run(0)", x.run(0), 2);
            Check.due("run(0)", x.run(0), 3);
            Check.due("value(0)", x.value(0), 102);
            x.undo();
            x.setCell(0, 50);
            Check.due("restore(0)", x.restore(0), 0);
            Check.due("value(0)", x.value(0), 100);
            Check.due("position(0)", x.position(0), 1);
            Check.due("readSet(0)", x.readSet(0), 1);
        }
    }

    private static void remembersAndForgets() {
        CellTransactions x = new CellTransactions();
        x.setCell(0, 1);
        x.setCell(0, 2);
        x.save(0);
        Check.due("undo(): save forgets nothing and is no action", x.undo(), 1);
        x.setCell(0, 3);
        Check.due("restore(0)", x.restore(0), 0);
        Check.due("undo() after restore", x.undo(), NOT_POSSIBLE);
        Check.due("value(0)", x.value(0), 102);
        x.setCell(0, 4);
        Check.due("undo()", x.undo(), 0);
        Check.due("value(0)", x.value(0), 102);
        for (int k = 0; k < 20; k++) {
            x.setCell(1, k);
        }
        x.restore(0);
        x.setCell(0, 5);
        x.setCell(0, 6);
        Check.due("undo()", x.undo(), 1);
        Check.due("undo()", x.undo(), 0);
        Check.due("undo()", x.undo(), NOT_POSSIBLE);
        Check.due("value(0)", x.value(0), 102);
        Check.due("clearText(): the text is no part of the state", x.append('M'), 1);
        x.restore(0);
        Check.due("clearText()", x.clearText(), 1);
    }
}
