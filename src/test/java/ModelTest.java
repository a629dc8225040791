/** Long runs of calls, made by a plain row of numbers, on the class and on the Model: both must answer the same. */
public final class ModelTest {
    private static final int OBJECTS = 3000;
    /** An object is good for 512 calls; the last draw may make some twenty of them. */
    private static final int CALLS = 490;

    private long row = 20261120;
    private CellTransactions x;
    private Model model;
    private int object;
    private int call;

    public static void main(String[] args) {
        ModelTest test = new ModelTest();
        for (test.object = 0; test.object < OBJECTS; test.object++) {
            test.oneObject();
        }
        Check.finish("ModelTest");
    }

    private int below(int bound) {
        row = row * 6364136223846793005L + 1442695040888963407L;
        return (int) ((row >>> 33) % bound);
    }

    private boolean oneIn(int chances) {
        return below(chances) == 0;
    }

    private void oneObject() {
        x = new CellTransactions();
        model = new Model();
        call = 0;
        int loads = 2 + below(4);
        for (int k = 0; k < loads; k++) {
            if (object % 50 != 0) {
                typeSetup();
            }
            int until = CALLS * (k + 1) / loads;
            while (call < until) {
                oneCall();
            }
        }
    }

    private void same(String what, int got, int want) {
        call++;
        Check.due("object " + object + ", call " + call + ": " + what, got, want);
    }

    // ---- setups

    private void typeSetup() {
        same("clearText()", x.clearText(), model.clearText());
        String setup = setup();
        for (int i = 0; i < setup.length() && call < CALLS - 7; i++) {
            append(setup.charAt(i));
        }
        same("errorPosition() of " + setup, x.errorPosition(), model.errorPosition());
        same("load() of " + setup, x.load(), model.load());
        schedules();
    }

    private void append(int c) {
        same("append(" + c + ")", x.append(c), model.append(c));
    }

    private String setup() {
        StringBuilder text = new StringBuilder("M");
        for (int c = 0; c < 6; c++) {
            text.append(oneIn(2) ? 0 : below(10));
        }
        int threads = 1 + below(3);
        int cells = oneIn(2) ? 2 : 6;
        for (int t = 0; t < threads; t++) {
            text.append('t').append(1 + below(2));
            int room = (60 - text.length()) / (threads - t) - 4;
            text.append(sequence(Math.min(room, 4 + below(46)), 0, cells)).append('.');
        }
        if (oneIn(8)) {
            int at = below(text.length());
            text.setCharAt(at, "Mt.()|{}!xrw+-?0567912z".charAt(below(23)));
        }
        return text.toString();
    }

    /** At most room signs. */
    private String sequence(int room, int depth, int cells) {
        StringBuilder text = new StringBuilder();
        for (int tries = 0; tries < 40 && text.length() < room && !oneIn(20); tries++) {
            String token = token(room - text.length(), depth, cells);
            if (text.length() + token.length() <= room) {
                text.append(token);
            }
        }
        return text.toString();
    }

    private String token(int room, int depth, int cells) {
        int kind = below(28);
        if (kind < 7) {
            return "r" + below(cells);
        }
        if (kind < 14) {
            return "w" + below(cells);
        }
        if (kind < 20) {
            return (kind < 17 ? "+" : "-") + below(10);
        }
        if (kind < 22) {
            return "?" + (oneIn(3) ? below(10) : below(3));
        }
        if (kind < 23) {
            return oneIn(3 - Math.min(depth, 2)) ? (oneIn(2) ? "!" : "x") : "";
        }
        if (depth == 3 || room < 4) {
            return "";
        }
        int inside = Math.min(room - 3, 2 + below(16));
        if (kind < 26) {
            String first = sequence(inside, depth + 1, cells) + (oneIn(4) ? "!" : "");
            return "(" + first + "|" + sequence(inside, depth + 1, cells) + ")";
        }
        return "{" + sequence(inside, depth + 1, cells) + (oneIn(4) ? "x" : "") + "}";
    }

    // ---- calls

    private int cell() {
        return oneIn(40) ? below(12) - 3 : below(6);
    }

    private int thread() {
        int t = oneIn(40) ? below(8) - 2 : below(model.threadCount());
        for (int k = 0; k < 4 && t >= 0 && model.state(t) > 0; k++) {
            t = below(model.threadCount());
        }
        return t;
    }

    private int number() {
        if (oneIn(20)) {
            return below(220) - 110;
        }
        return oneIn(6) ? (oneIn(2) ? 99 : -99) + below(3) - 1 : below(14) - 3;
    }

    private void oneCall() {
        int t = thread();
        switch (below(24)) {
            case 0, 1, 2, 3, 4, 5, 6, 7, 8, 9 -> same("step(" + t + ")", x.step(t), model.step(t));
            case 10 -> same("run(" + t + ")", x.run(t), model.run(t));
            case 11 -> setCell(cell(), number());
            case 12, 13, 14, 15 -> readThread(t);
            case 16 -> readCell(cell());
            case 17 -> undoOrSlots();
            case 18, 19 -> script();
            case 20 -> schedules();
            case 21 -> observe(cell(), number());
            case 22 -> addInvariant(cell(), cell(), number());
            default -> textCalls();
        }
    }

    private void setCell(int c, int v) {
        same("setCell(" + c + ", " + v + ")", x.setCell(c, v), model.setCell(c, v));
    }

    private void addInvariant(int i, int j, int v) {
        if (oneIn(3)) {
            int low = v < -99 ? v : Math.max(-99, v - 60);
            same("addInvariant(" + i + ", " + j + ", " + low + ")", x.addInvariant(i, j, low), model.addInvariant(i, j, low));
        }
    }

    private void observe(int c, int v) {
        int near = oneIn(2) && c >= 0 && c < 6 ? model.value(c) - 100 : v;
        same("observe(" + c + ", " + near + ")", x.observe(c, near), model.observe(c, near));
    }

    private void readThread(int t) {
        same("state(" + t + ")", x.state(t), model.state(t));
        same("position(" + t + ")", x.position(t), model.position(t));
        same("accumulator(" + t + ")", x.accumulator(t), model.accumulator(t));
        same("readSet(" + t + ")", x.readSet(t), model.readSet(t));
        same("writeSet(" + t + ")", x.writeSet(t), model.writeSet(t));
        same("openBlocks(" + t + ")", x.openBlocks(t), model.openBlocks(t));
        same("runsLeft(" + t + ")", x.runsLeft(t), model.runsLeft(t));
        same("restarts(" + t + ")", x.restarts(t), model.restarts(t));
        int c = cell();
        same("seenValue(" + t + ", " + c + ")", x.seenValue(t, c), model.seenValue(t, c));
    }

    private void readCell(int c) {
        same("value(" + c + ")", x.value(c), model.value(c));
        same("version(" + c + ")", x.version(c), model.version(c));
        same("threadCount()", x.threadCount(), model.threadCount());
    }

    private void undoOrSlots() {
        int slot = oneIn(12) ? below(6) - 2 : below(2);
        switch (below(6)) {
            case 0 -> same("save(" + slot + ")", x.save(slot), model.save(slot));
            case 1 -> same("restore(" + slot + ")", x.restore(slot), model.restore(slot));
            default -> {
                for (int k = below(18); k >= 0; k--) {
                    same("undo()", x.undo(), model.undo());
                }
            }
        }
    }

    private void script() {
        int n = oneIn(30) ? below(8) - 1 : 1 + below(4);
        long script = 0;
        for (int k = 0; k < n; k++) {
            int kind = oneIn(20) ? below(10) : oneIn(2) ? 1 : 2 + below(4);
            script = script * 1000 + 100 * kind + 10 * (oneIn(3) ? below(7) : 0) + (oneIn(8) ? below(10) : below(3));
        }
        if (oneIn(30)) {
            script = oneIn(2) ? -script : script * 1000;
        }
        same("runScript(" + n + ", " + script + ")", x.runScript(n, script), model.runScript(n, script));
    }

    private void schedules() {
        int c = cell();
        same("outcomeCount()", x.outcomeCount(), model.outcomeCount());
        same("possibleOutcomes()", x.possibleOutcomes(), model.possibleOutcomes());
        same("canDeadlock()", x.canDeadlock(), model.canDeadlock());
        same("greatestOutcome(" + c + ")", x.greatestOutcome(c), model.greatestOutcome(c));
    }

    private void textCalls() {
        if (oneIn(6)) {
            append(below(300) - 20);
        } else if (oneIn(4)) {
            same("load()", x.load(), model.load());
        } else {
            same("errorPosition()", x.errorPosition(), model.errorPosition());
        }
    }
}
