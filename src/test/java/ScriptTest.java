/** Promise 27: runScript. */
public final class ScriptTest {
    private static final int NONE = CellTransactions.NONE;
    private static final int BAD_VALUE = CellTransactions.BAD_VALUE;

    public static void main(String[] args) {
        badValues();
        groups();
        steps();
        states();
        valuesAndVersions();
        restarts();
        otherGroups();
        runsOnACopy();
        Check.finish("ScriptTest");
    }

    private static void script(CellTransactions x, int n, long script, int due) {
        Check.due("runScript(" + n + ", " + script + ")", x.runScript(n, script), due);
    }

    private static void badValues() {
        CellTransactions x = new CellTransactions();
        script(x, 0, 0, BAD_VALUE);
        script(x, 5, 0, BAD_VALUE);
        script(x, -1, 200, BAD_VALUE);
        script(x, Integer.MIN_VALUE, 200, BAD_VALUE);
        script(x, Integer.MAX_VALUE, 200, BAD_VALUE);
        script(x, 1, -1, BAD_VALUE);
        script(x, 4, Long.MIN_VALUE, BAD_VALUE);
        script(x, 4, Long.MAX_VALUE, BAD_VALUE);
        script(x, 1, 999, 0);
        script(x, 1, 1000, BAD_VALUE);
        script(x, 2, 999999, 0);
        script(x, 2, 1000000, BAD_VALUE);
        script(x, 3, 999999999L, 0);
        script(x, 3, 1000000000L, BAD_VALUE);
        script(x, 4, 999999999999L, 0);
        script(x, 4, 1000000000000L, BAD_VALUE);
        script(x, 4, (1L << 32) * 1000, BAD_VALUE);
    }

    private static void groups() {
        CellTransactions x = new CellTransactions();
        script(x, 1, 200, NONE);
        script(x, 2, 200200, NONE);
        script(x, 3, 200200200, NONE);
        script(x, 4, 200200200200L, NONE);
        script(x, 4, 201200200200L, 0);
        script(x, 4, 200201200200L, 1);
        script(x, 4, 200200201200L, 2);
        script(x, 4, 200200200201L, 3);
        script(x, 4, 200201200201L, 1);
        // fewer digits: the highest groups are zeros, and fail
        script(x, 2, 200, 0);
        script(x, 4, 200200200, 0);
        script(x, 1, 0, 0);
        script(x, 4, 0, 0);
    }

    private static void steps() {
        CellTransactions x = Check.loaded("M000000t2r0+1w0.t1r0?1w1.");
        script(x, 1, 101, NONE);
        script(x, 1, 100, 0);
        script(x, 1, 103, NONE);
        script(x, 1, 106, NONE);
        script(x, 1, 107, 0);
        script(x, 1, 109, 0);
        script(x, 2, 106202, NONE);
        script(x, 2, 103200, NONE);
        script(x, 1, 112, NONE);
        script(x, 1, 113, 0);
        script(x, 2, 112211, NONE);
        // a waiting thread that is woken goes on
        script(x, 4, 112103210113L, NONE);
        script(x, 4, 112102211113L, 3);
        script(x, 1, 121, 0);
        script(x, 1, 191, 0);
        // a step that restarts is a step
        x = Check.loaded("M000000t1r0+1w0.t1r0+1w0.");
        script(x, 4, 101113103301L, NONE);
        script(x, 4, 101113105302L, NONE);
        script(x, 3, 101113106, 2);
        x = Check.loaded("M000000t1+1+1+1+1+1+1+1+1+1w0.");
        script(x, 3, 109101309, NONE);
        script(x, 3, 109101209, 2);
        x = Check.loaded("M000000t1x.");
        script(x, 2, 101203, NONE);
        script(x, 1, 102, 0);
    }

    private static void states() {
        CellTransactions x = Check.loaded("M000000t1.t1!.t1x.");
        script(x, 3, 200210220, NONE);
        x.step(0);
        x.step(1);
        x.step(2);
        script(x, 3, 202211223, NONE);
        script(x, 1, 200, 0);
        script(x, 1, 210, 0);
        script(x, 1, 220, 0);
        script(x, 1, 204, 0);
        script(x, 1, 209, 0);
        script(x, 1, 230, 0);
        script(x, 1, 290, 0);
        script(new CellTransactions(), 1, 210, 0);
    }

    private static void valuesAndVersions() {
        CellTransactions x = Check.loaded("M012349t1.");
        script(x, 3, 300311322, NONE);
        script(x, 3, 333344359, NONE);
        script(x, 1, 301, 0);
        script(x, 1, 358, 0);
        script(x, 1, 360, 0);
        script(x, 1, 399, 0);
        script(x, 3, 400410450, NONE);
        script(x, 1, 460, 0);
        script(x, 1, 490, 0);
        x.setCell(5, 10);
        script(x, 1, 359, 0);
        script(x, 1, 350, 0);
        script(x, 1, 451, NONE);
        script(x, 1, 450, 0);
        x.setCell(0, -3);
        script(x, 1, 303, 0);
        for (int k = 0; k < 9; k++) {
            x.setCell(1, 4);
        }
        script(x, 2, 419314, NONE);
        x.setCell(1, 4);
        script(x, 1, 419, 0);
        script(x, 1, 410, 0);
    }

    private static void restarts() {
        CellTransactions x = Check.loaded("M000000t1r0+1w0.t1r0!.");
        script(x, 2, 500510, NONE);
        script(x, 1, 501, 0);
        script(x, 1, 520, 0);
        script(x, 1, 590, 0);
        script(x, 4, 101112102511L, NONE);
        script(x, 4, 101112102510L, 3);
        for (int k = 0; k < 9; k++) {
            x.run(1);
            x.setCell(0, 0);
        }
        script(x, 1, 519, NONE);
        script(x, 1, 500, NONE);
        x.run(1);
        x.setCell(0, 0);
        script(x, 1, 519, 0);
        script(x, 1, 510, 0);
    }

    private static void otherGroups() {
        CellTransactions x = new CellTransactions();
        int[] others = {0, 1, 11, 100, 600, 601, 700, 800, 900, 999};
        for (int group : others) {
            script(x, 1, group, 0);
            script(x, 2, 200000 + group, 1);
        }
    }

    private static void runsOnACopy() {
        CellTransactions x = Check.loaded("M000000t2r0+1w0.t1r0!.");
        x.addInvariant(0, 0, 0);
        x.run(1);
        x.step(0);
        script(x, 4, 102301511112L, NONE);
        script(x, 4, 102301511113L, 3);
        script(x, 4, 105302202210L, NONE);
        Check.due("value(0)", x.value(0), 100);
        Check.due("version(0)", x.version(0), 0);
        Check.due("position(0)", x.position(0), 1);
        Check.due("runsLeft(0)", x.runsLeft(0), 2);
        Check.due("state(1)", x.state(1), CellTransactions.WAITING);
        Check.due("restarts(1)", x.restarts(1), 0);
        Check.due("undo()", x.undo(), 2);
        // invariants are checked on the copy, too
        x = Check.loaded("M000000t1-1w0.");
        x.addInvariant(0, 0, 0);
        script(x, 2, 102203, NONE);
        script(x, 2, 102300, NONE);
        Check.due("state(0)", x.state(0), CellTransactions.READY);
    }
}
