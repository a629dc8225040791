import java.lang.reflect.Constructor;
import java.lang.reflect.Field;
import java.lang.reflect.Method;
import java.lang.reflect.Modifier;
import java.util.Set;
import java.util.TreeSet;

/** The public face, member by member, and promise 1: what a new object is. */
public final class FaceTest {
    private static final String[] METHODS = {
        "append(int)", "clearText()", "errorPosition()", "load()", "value(int)", "version(int)", "threadCount()",
        "state(int)", "position(int)", "accumulator(int)", "seenValue(int,int)", "readSet(int)", "writeSet(int)",
        "openBlocks(int)", "runsLeft(int)", "restarts(int)", "step(int)", "run(int)", "setCell(int,int)",
        "addInvariant(int,int,int)", "undo()", "outcomeCount()", "possibleOutcomes()", "canDeadlock()",
        "greatestOutcome(int)", "runScript(int,long)", "observe(int,int)", "save(int)", "restore(int)",
    };

    public static void main(String[] args) throws Exception {
        constants();
        members();
        newObject();
        objectsAreApart();
        Check.finish("FaceTest");
    }

    private static void constants() throws Exception {
        constant("NO_SUCH_INDEX", -1);
        constant("BAD_VALUE", -2);
        constant("NOT_POSSIBLE", -3);
        constant("FULL", -4);
        constant("NONE", -9);
        constant("READY", 0);
        constant("WAITING", 1);
        constant("DONE", 2);
        constant("FAILED", 3);
        constant("WENT_ON", 0);
        constant("COMMITTED", 1);
        constant("RESTARTED", 2);
        constant("WAITS", 3);
        constant("FAILS", 4);
    }

    private static void constant(String name, int want) throws Exception {
        Field field = CellTransactions.class.getDeclaredField(name);
        int wanted = Modifier.PUBLIC | Modifier.STATIC | Modifier.FINAL;
        Check.due("modifiers of " + name, field.getModifiers(), wanted);
        Check.due(name, field.getInt(null), want);
    }

    private static void members() {
        Class<?> face = CellTransactions.class;
        Check.due("modifiers of the class", face.getModifiers(), Modifier.PUBLIC | Modifier.FINAL);
        Set<String> due = new TreeSet<>(Set.of(METHODS));
        for (Method method : face.getDeclaredMethods()) {
            if (Modifier.isPrivate(method.getModifiers())) {
                continue;
            }
            StringBuilder signature = new StringBuilder(method.getName()).append('(');
            for (Class<?> type : method.getParameterTypes()) {
                signature.append(signature.charAt(signature.length() - 1) == '(' ? "" : ",").append(type.getName());
            }
            String name = signature.append(')').toString();
            Check.due("is in the document: " + name, due.remove(name) ? 1 : 0, 1);
            Check.due("modifiers of " + name, method.getModifiers(), Modifier.PUBLIC);
            Check.due("answers an int: " + name, method.getReturnType() == int.class ? 1 : 0, 1);
        }
        Check.due("methods that are missing: " + due, due.size(), 0);
        for (Constructor<?> constructor : face.getDeclaredConstructors()) {
            Check.due("parameters of the constructor", constructor.getParameterCount(), 0);
            Check.due("modifiers of the constructor", constructor.getModifiers(), Modifier.PUBLIC);
        }
        int open = 0;
        for (Field field : face.getDeclaredFields()) {
            open += Modifier.isPrivate(field.getModifiers()) ? 0 : 1;
        }
        Check.due("fields that are not private", open, 14);
    }

    private static void newObject() {
        CellTransactions x = new CellTransactions();
        for (int c = 0; c < 6; c++) {
            Check.due("value(" + c + ")", x.value(c), 100);
            Check.due("version(" + c + ")", x.version(c), 0);
            Check.due("seenValue(0, " + c + ")", x.seenValue(0, c), 100);
        }
        Check.due("threadCount()", x.threadCount(), 1);
        Check.due("state(0)", x.state(0), CellTransactions.READY);
        Check.due("position(0)", x.position(0), 0);
        Check.due("accumulator(0)", x.accumulator(0), 100);
        Check.due("readSet(0)", x.readSet(0), 0);
        Check.due("writeSet(0)", x.writeSet(0), 0);
        Check.due("openBlocks(0)", x.openBlocks(0), 0);
        Check.due("runsLeft(0)", x.runsLeft(0), 1);
        Check.due("restarts(0)", x.restarts(0), 0);
        Check.due("clearText()", x.clearText(), 0);
        Check.due("errorPosition()", x.errorPosition(), 0);
        Check.due("load()", x.load(), CellTransactions.NOT_POSSIBLE);
        Check.due("undo()", x.undo(), CellTransactions.NOT_POSSIBLE);
        Check.due("restore(0)", x.restore(0), CellTransactions.NOT_POSSIBLE);
        Check.due("restore(1)", x.restore(1), CellTransactions.NOT_POSSIBLE);
        Check.due("outcomeCount()", x.outcomeCount(), 1);
        Check.due("possibleOutcomes()", x.possibleOutcomes(), 1);
        Check.due("addInvariant(0, 0, 0) is the first", x.addInvariant(0, 0, 0), 1);
        Check.due("observe(0, 0) is the first", x.observe(0, 0), 1);
        Check.due("run(0)", x.run(0), 1);
        Check.due("state(0)", x.state(0), CellTransactions.DONE);
    }

    private static void objectsAreApart() {
        CellTransactions one = Check.loaded("M111111t2r0w1.");
        CellTransactions other = new CellTransactions();
        Check.due("value(0) of the other", other.value(0), 100);
        Check.due("run(0) of the other", other.run(0), 1);
        Check.due("run(0) of the first", one.run(0), 2);
        Check.due("version(1) of the other", other.version(1), 0);
    }
}
