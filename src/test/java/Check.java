/** Counts the calls whose answers are not due, for the tests of one main method. */
final class Check {
    private static int wrong = 0;
    private static int calls = 0;

    private Check() {
    }

    static void due(String call, long got, long want) {
        calls++;
        if (got != want) {
            wrong++;
            System.out.println(call + " answered " + got + ", due is " + want);
        }
    }

    /** An object that has the setup loaded. */
    static CellTransactions loaded(String setup) {
        CellTransactions x = new CellTransactions();
        type(x, setup);
        int threads = x.load();
        if (threads < 1) {
            due("load() of " + setup, threads, 1);
        }
        return x;
    }

    static void type(CellTransactions x, String text) {
        for (int i = 0; i < text.length(); i++) {
            due("append of " + text + " at " + i, x.append(text.charAt(i)) > 0 ? 1 : 0, 1);
        }
    }

    /** Takes steps, each of which goes on. */
    static void goOn(CellTransactions x, int t, int steps) {
        for (int k = 0; k < steps; k++) {
            due("step(" + t + ") number " + k, x.step(t), CellTransactions.WENT_ON);
        }
    }

    static void finish(String test) {
        System.out.println(test + ": " + calls + " answers, " + wrong + " not as due");
        if (wrong != 0) {
            System.exit(1);
        }
    }
}
