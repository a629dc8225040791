/** The five examples of the document. */
public final class ExamplesTest {
    public static void main(String[] args) {
        aThreadThatWrites();
        anInvariantThatIsViolated();
        theEmptyProgram();
        whereASetupIsWrong();
        outcomesAndObservations();
        Check.finish("ExamplesTest");
    }

    private static void appends(CellTransactions x, int firstLength, int... signs) {
        for (int k = 0; k < signs.length; k++) {
            Check.due("append(" + signs[k] + ")", x.append(signs[k]), firstLength + k);
        }
    }

    private static void aThreadThatWrites() {
        CellTransactions x = new CellTransactions();
        appends(x, 1, 77, 48, 48, 48, 48, 48, 48, 116, 49, 43, 49, 119, 48, 46);
        Check.due("1: load()", x.load(), 1);
        Check.due("1: run(0)", x.run(0), 2);
    }

    private static void anInvariantThatIsViolated() {
        CellTransactions x = new CellTransactions();
        Check.due("2: setCell(2, 7)", x.setCell(2, 7), 1);
        Check.due("2: value(2)", x.value(2), 107);
        Check.due("2: version(2)", x.version(2), 1);
        Check.due("2: addInvariant(2, 2, 15)", x.addInvariant(2, 2, 15), 1);
        Check.due("2: step(0)", x.step(0), 4);
        Check.due("2: state(0)", x.state(0), 3);
        Check.due("2: undo()", x.undo(), 2);
        Check.due("2: undo()", x.undo(), 1);
        Check.due("2: step(0)", x.step(0), 1);
        Check.due("2: state(0)", x.state(0), 2);
        Check.due("2: step(0)", x.step(0), -3);
    }

    private static void theEmptyProgram() {
        CellTransactions x = new CellTransactions();
        Check.due("3: step(0)", x.step(0), 1);
        Check.due("3: state(0)", x.state(0), 2);
        Check.due("3: runsLeft(0)", x.runsLeft(0), 0);
        Check.due("3: step(0)", x.step(0), -3);
        Check.due("3: run(0)", x.run(0), -3);
        Check.due("3: step(1)", x.step(1), -1);
        Check.due("3: undo()", x.undo(), 0);
        Check.due("3: state(0)", x.state(0), 0);
        Check.due("3: undo()", x.undo(), -3);
    }

    private static void whereASetupIsWrong() {
        CellTransactions x = new CellTransactions();
        appends(x, 1, 77, 49, 50, 51, 52, 53);
        Check.due("4: errorPosition()", x.errorPosition(), 6);
        Check.due("4: load()", x.load(), -3);
        appends(x, 7, 55);
        Check.due("4: errorPosition()", x.errorPosition(), 7);
        appends(x, 8, 116, 51);
        Check.due("4: errorPosition()", x.errorPosition(), 8);
    }

    private static void outcomesAndObservations() {
        CellTransactions x = new CellTransactions();
        Check.due("5: setCell(0, 99)", x.setCell(0, 99), 1);
        Check.due("5: setCell(0, 100)", x.setCell(0, 100), -2);
        Check.due("5: setCell(6, 0)", x.setCell(6, 0), -1);
        Check.due("5: greatestOutcome(0)", x.greatestOutcome(0), 199);
        Check.due("5: outcomeCount()", x.outcomeCount(), 1);
        Check.due("5: observe(0, 99)", x.observe(0, 99), 1);
        Check.due("5: possibleOutcomes()", x.possibleOutcomes(), 1);
        Check.due("5: observe(0, 98)", x.observe(0, 98), 2);
        Check.due("5: possibleOutcomes()", x.possibleOutcomes(), 0);
        Check.due("5: canDeadlock()", x.canDeadlock(), 0);
    }
}
