/** Promises 2 to 5: append, clearText, errorPosition and load. */
public final class SetupTextTest {
    private static final int NONE = CellTransactions.NONE;
    private static final int BAD_VALUE = CellTransactions.BAD_VALUE;
    private static final int NOT_POSSIBLE = CellTransactions.NOT_POSSIBLE;
    private static final int FULL = CellTransactions.FULL;

    public static void main(String[] args) {
        append();
        clearText();
        headOfTheSetup();
        tokens();
        brackets();
        threads();
        lengthOfTheText();
        everySignBehindAPrefix();
        load();
        loadKeepsAndForgets();
        loadRefused();
        Check.finish("SetupTextTest");
    }

    private static void append() {
        CellTransactions x = new CellTransactions();
        Check.due("append(-1)", x.append(-1), BAD_VALUE);
        Check.due("append(256)", x.append(256), BAD_VALUE);
        Check.due("append(least int)", x.append(Integer.MIN_VALUE), BAD_VALUE);
        Check.due("append(greatest int)", x.append(Integer.MAX_VALUE), BAD_VALUE);
        Check.due("append(0)", x.append(0), 1);
        Check.due("append(255)", x.append(255), 2);
        for (int length = 3; length <= 60; length++) {
            Check.due("append to length " + length, x.append('M'), length);
        }
        Check.due("append to 60", x.append('M'), FULL);
        Check.due("append(256) to 60", x.append(256), BAD_VALUE);
        Check.due("clearText()", x.clearText(), 60);
        Check.due("append after clearText", x.append('M'), 1);
    }

    private static void clearText() {
        CellTransactions x = new CellTransactions();
        Check.due("clearText() of nothing", x.clearText(), 0);
        Check.type(x, "M12");
        Check.due("clearText()", x.clearText(), 3);
        Check.due("clearText() again", x.clearText(), 0);
        Check.due("errorPosition()", x.errorPosition(), 0);
        Check.type(x, "M000000t1.");
        Check.due("errorPosition() of what came after", x.errorPosition(), NONE);
    }

    private static void wrongAt(String text, int due) {
        CellTransactions x = new CellTransactions();
        Check.type(x, text);
        Check.due("errorPosition() of " + text, x.errorPosition(), due);
        Check.due("errorPosition() of " + text + " again", x.errorPosition(), due);
        if (due == NONE) {
            Check.due("load() of " + text, x.load() > 0 ? 1 : 0, 1);
        } else {
            Check.due("load() of " + text, x.load(), NOT_POSSIBLE);
        }
    }

    /** The text is a beginning that a setup can have, and no setup. */
    private static void goesOn(String text) {
        wrongAt(text, text.length());
    }

    private static void headOfTheSetup() {
        wrongAt("", 0);
        wrongAt("m", 0);
        wrongAt("t1.", 0);
        goesOn("M");
        wrongAt("MM", 1);
        goesOn("M09");
        wrongAt("M09/", 3);
        wrongAt("M09:", 3);
        wrongAt("M01234t", 6);
        goesOn("M012345");
        wrongAt("M0123456", 7);
        wrongAt("M012345.", 7);
        wrongAt("M012345T", 7);
        goesOn("M012345t");
        wrongAt("M012345t0", 8);
        wrongAt("M012345t3", 8);
        wrongAt("M012345tr", 8);
        goesOn("M012345t1");
        goesOn("M012345t2");
        wrongAt("M012345t1.", NONE);
        wrongAt("M012345t2.", NONE);
    }

    private static void tokens() {
        wrongAt("M000000t1r0w5+9-0?9!x.", NONE);
        wrongAt("M000000t1r5w0+0-9?0.", NONE);
        goesOn("M000000t1r");
        wrongAt("M000000t1r6", 10);
        wrongAt("M000000t1w6", 10);
        wrongAt("M000000t1r/", 10);
        wrongAt("M000000t1r.", 10);
        goesOn("M000000t1+");
        wrongAt("M000000t1+:", 10);
        wrongAt("M000000t1-/", 10);
        wrongAt("M000000t1?!", 10);
        wrongAt("M000000t1+10.", 11);
        wrongAt("M000000t1!1", 10);
        wrongAt("M000000t1 ", 9);
        wrongAt("M000000t1R0.", 9);
        wrongAt("M000000t1X.", 9);
        wrongAt("M000000t1t1.", 9);
        wrongAt("M000000t1\0", 9);
        wrongAt("M000000t1" + (char) 255, 9);
    }

    private static void brackets() {
        wrongAt("M000000t1(|).", NONE);
        wrongAt("M000000t1{}.", NONE);
        wrongAt("M000000t1({(|)}|{}).", NONE);
        wrongAt("M000000t1(((|)|)|).", NONE);
        wrongAt("M000000t1(|(|(|))).", NONE);
        wrongAt("M000000t1{{{}}}.", NONE);
        wrongAt("M000000t1{{{}{}}(|)}{}.", NONE);
        goesOn("M000000t1(");
        goesOn("M000000t1(|");
        goesOn("M000000t1{(|{");
        wrongAt("M000000t1()", 10);
        wrongAt("M000000t1(|).|", 13);
        wrongAt("M000000t1(||", 11);
        wrongAt("M000000t1(|)|", 12);
        wrongAt("M000000t1|", 9);
        wrongAt("M000000t1)", 9);
        wrongAt("M000000t1}", 9);
        wrongAt("M000000t1{|", 10);
        wrongAt("M000000t1({|", 11);
        wrongAt("M000000t1(|{|", 12);
        wrongAt("M000000t1(}", 10);
        wrongAt("M000000t1(|}", 11);
        wrongAt("M000000t1{)", 10);
        wrongAt("M000000t1(|{)", 12);
        wrongAt("M000000t1(.", 10);
        wrongAt("M000000t1(|.", 11);
        wrongAt("M000000t1{.", 10);
        wrongAt("M000000t1{{{{", 12);
        wrongAt("M000000t1((((", 12);
        wrongAt("M000000t1(|(|(|(", 15);
        wrongAt("M000000t1{({(", 12);
        wrongAt("M000000t1(((|{", 13);
        // a bracket that a thread leaves behind does not count in the next
        wrongAt("M000000t1{{{}}}.t1{{{}}}.", NONE);
        wrongAt("M000000t1{}.t1}", 14);
    }

    private static void threads() {
        goesOn("M000000t1.t");
        goesOn("M000000t1.t2");
        wrongAt("M000000t1.t2.", NONE);
        wrongAt("M000000t1.t2.t1.", NONE);
        wrongAt("M000000t1.t2.t1.t", 16);
        wrongAt("M000000t1.t2.t1..", 16);
        wrongAt("M000000t1.t2.t1. ", 16);
        wrongAt("M000000t1..", 10);
        wrongAt("M000000t1.r0.", 10);
        wrongAt("M000000t1.M", 10);
        wrongAt("M000000t1.1", 10);
    }

    private static void lengthOfTheText() {
        StringBuilder text = new StringBuilder("M000000t1");
        while (text.length() < 59) {
            text.append('!');
        }
        wrongAt(text + ".", NONE);
        // no setup fits any more, but the limit is to be ignored
        goesOn(text + "!");
        goesOn(text + "r");
        goesOn(text + "(");
        wrongAt(text + ")", 59);
    }

    private static void everySignBehindAPrefix() {
        follows("", "M");
        follows("M", "0123456789");
        follows("M12345", "0123456789");
        follows("M123456", "t");
        follows("M123456t", "12");
        follows("M123456t1", "rw+-?!x({.");
        follows("M123456t1r", "012345");
        follows("M123456t1w", "012345");
        follows("M123456t1+", "0123456789");
        follows("M123456t1-", "0123456789");
        follows("M123456t1?", "0123456789");
        follows("M123456t1(", "rw+-?!x({|");
        follows("M123456t1(|", "rw+-?!x({)");
        follows("M123456t1{", "rw+-?!x({}");
        follows("M123456t1{{{", "rw+-?!x}");
        follows("M123456t1{{(", "rw+-?!x|");
        follows("M123456t1{{(|", "rw+-?!x)");
        follows("M123456t1{{(|)", "rw+-?!x({}");
        follows("M123456t1.", "t");
        follows("M123456t1.t1.", "t");
        follows("M123456t1.t1.t1.", "");
    }

    private static void follows(String prefix, String signs) {
        for (char sign = 0; sign <= 255; sign++) {
            CellTransactions x = new CellTransactions();
            Check.type(x, prefix + sign);
            int at = x.errorPosition();
            boolean allowed = at == NONE || at == prefix.length() + 1;
            Check.due("sign " + (int) sign + " behind " + prefix, allowed ? 1 : 0, signs.indexOf(sign) >= 0 ? 1 : 0);
            if (!allowed) {
                Check.due("errorPosition() with sign " + (int) sign + " behind " + prefix, at, prefix.length());
            }
        }
    }

    private static void load() {
        CellTransactions x = new CellTransactions();
        Check.type(x, "M907214t1r0.t2w1.t1!.");
        Check.due("load()", x.load(), 3);
        int[] values = {9, 0, 7, 2, 1, 4};
        for (int c = 0; c < 6; c++) {
            Check.due("value(" + c + ")", x.value(c), 100 + values[c]);
            Check.due("version(" + c + ")", x.version(c), 0);
        }
        Check.due("threadCount()", x.threadCount(), 3);
        for (int t = 0; t < 3; t++) {
            Check.due("state(" + t + ")", x.state(t), CellTransactions.READY);
            Check.due("runsLeft(" + t + ")", x.runsLeft(t), t == 1 ? 2 : 1);
            Check.due("restarts(" + t + ")", x.restarts(t), 0);
            Check.due("position(" + t + ")", x.position(t), 0);
            Check.due("accumulator(" + t + ")", x.accumulator(t), 100);
        }
        x.clearText();
        Check.type(x, "M000000t1.t1.");
        Check.due("load() of two", x.load(), 2);
        Check.due("state(2) of two", x.state(2), CellTransactions.NO_SUCH_INDEX);
        Check.due("step(0) by the new program", x.step(0), CellTransactions.COMMITTED);
        x.clearText();
        Check.type(x, "M000000t1(!|+3)w0.t1{x+1}w1.");
        Check.due("load() of longer programs", x.load(), 2);
        Check.due("run(0)", x.run(0), 5);
        Check.due("run(1)", x.run(1), 3);
        Check.due("value(0)", x.value(0), 103);
        Check.due("version(1)", x.version(1), 1);
    }

    private static void loadKeepsAndForgets() {
        CellTransactions x = new CellTransactions();
        Check.type(x, "M500000t2r0r1+1w0w1.t1r2?9.");
        Check.due("load()", x.load(), 2);
        x.observe(0, 5);
        x.addInvariant(0, 0, -9);
        x.save(0);
        x.save(1);
        Check.due("run(1)", x.run(1), 2);
        Check.due("state(1)", x.state(1), CellTransactions.WAITING);
        x.step(0);
        x.setCell(0, 1);
        x.setCell(2, 1);
        Check.due("restarts(1)", x.restarts(1), 1);
        x.setCell(5, 1);
        Check.due("undo()", x.undo(), 5);
        Check.due("restarts(1)", x.restarts(1), 1);
        Check.due("load() again", x.load(), 2);
        Check.due("undo() after load", x.undo(), NOT_POSSIBLE);
        Check.due("restore(0) after load", x.restore(0), NOT_POSSIBLE);
        Check.due("restore(1) after load", x.restore(1), NOT_POSSIBLE);
        Check.due("value(0)", x.value(0), 105);
        Check.due("version(0)", x.version(0), 0);
        Check.due("readSet(0)", x.readSet(0), 0);
        Check.due("accumulator(0)", x.accumulator(0), 100);
        Check.due("state(1)", x.state(1), CellTransactions.READY);
        Check.due("restarts(1)", x.restarts(1), 0);
        Check.due("addInvariant is the first again", x.addInvariant(0, 0, 0), 1);
        Check.due("observe is the second", x.observe(0, 6), 2);
        Check.due("clearText(): the text was kept", x.clearText(), 27);
    }

    private static void loadRefused() {
        CellTransactions x = Check.loaded("M123456t2+1w0.");
        x.step(0);
        x.save(0);
        x.append('x');
        Check.due("load() of a wrong text", x.load(), NOT_POSSIBLE);
        Check.due("accumulator(0)", x.accumulator(0), 101);
        Check.due("position(0)", x.position(0), 1);
        Check.due("restore(0)", x.restore(0), 0);
        x.clearText();
        Check.due("load() of no text", x.load(), NOT_POSSIBLE);
        Check.due("value(5)", x.value(5), 106);
        Check.due("run(0) by the old program", x.run(0), 1);
        Check.due("value(0)", x.value(0), 101);
    }
}
