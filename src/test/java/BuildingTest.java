/** Promises 1 to 6 and 16: a new object, declare, emit, drop, clear, length, and what they do to the last run. */
public final class BuildingTest {
    private static final int BAD = ProcedureDesk.BAD;
    private static final int FULL = ProcedureDesk.FULL;
    private static final int DONE = ProcedureDesk.DONE;
    private static final int[] FAR = {Integer.MIN_VALUE, Integer.MIN_VALUE + 1, -9, -2, Integer.MAX_VALUE - 1,
        Integer.MAX_VALUE, 1 << 29, 1 << 30, 512, 1024};

    public static void main(String[] args) {
        newObject();
        declares();
        emitsAtPositions();
        emitRefusesWrongNumbers();
        emitRefusesWrongRegisters();
        emitRefusesWrongForks();
        emitRefusesWrongCalls();
        emitFull();
        emitKeepsItsNumbers();
        emitForgetsTheRun();
        drops();
        dropForgetsTheRun();
        clears();
        lengths();
        declareKeepsTheRun();
        Answers.end();
    }

    private static void newObject() {
        ProcedureDesk desk = new ProcedureDesk();
        Answers.dueNoRun(1, "new object", desk);
        for (int p = -1; p <= 5; p++) {
            Answers.due(1, "new object, length(" + p + ")", BAD, desk.length(p));
            Answers.due(1, "new object, drop(" + p + ")", BAD, desk.drop(p));
            Answers.due(1, "new object, emit(" + p + ")", BAD, desk.emit(p, Answers.SET, 0, 0));
            Answers.due(1, "new object, parameters of " + p, 0, desk.parametersThatMatter(p));
            Answers.due(1, "new object, result of " + p, false, desk.resultMatters(p));
            Answers.due(1, "new object, instructions of " + p, 0, desk.instructionsThatMatter(p));
        }
        Answers.due(1, "new object, run", BAD, desk.run(1, 2, 3));
        ProcedureDesk other = Answers.desk(1);
        Answers.due(1, "an object apart from another one", 1, other.declare(0));
        Answers.due(1, "an object apart from another one", 0, desk.declare(0));
    }

    private static void declares() {
        ProcedureDesk desk = new ProcedureDesk();
        Answers.due(2, "declare(-1)", BAD, desk.declare(-1));
        Answers.due(2, "declare(4)", BAD, desk.declare(4));
        Answers.due(2, "nothing declared", BAD, desk.length(0));
        int[] parameters = {3, 0, 2, 1, 3};
        for (int p = 0; p < 5; p++) {
            Answers.due(2, "number of the procedure", p, desk.declare(parameters[p]));
            Answers.due(2, "declared", 0, desk.length(p));
            Answers.due(2, "not declared", BAD, desk.length(p + 1));
            Answers.due(2, "declare(4)", BAD, desk.declare(4));
        }
        for (int count = 0; count <= 3; count++) {
            Answers.due(2, "sixth, declare(" + count + ")", FULL, desk.declare(count));
        }
        Answers.due(2, "BAD before FULL", BAD, desk.declare(4));
        Answers.due(2, "BAD before FULL", BAD, desk.declare(-1));
        for (int far : FAR) {
            Answers.due(2, "declare(" + far + ")", BAD, desk.declare(far));
        }
        Answers.due(2, "no sixth", BAD, desk.length(5));
    }

    private static void emitsAtPositions() {
        ProcedureDesk desk = Answers.desk(1, 2);
        for (int k = 0; k < 8; k++) {
            Answers.due(3, "position in 1", k, desk.emit(1, k == 4 || k == 5 ? 0 : k, 0, 0));
        }
        Answers.due(3, "each procedure has its own positions", 0, desk.emit(0, Answers.SET, 5, Integer.MIN_VALUE));
        Answers.due(3, "numbers that are not used may be anything", 1, desk.emit(0, Answers.SET, 5 + 8 * 7 + 64 * 7, 0));
        Answers.due(3, "numbers that are not used may be anything", 2, desk.emit(0, Answers.FORK, 8 * 7 + 64 * 7, 3));
        Answers.due(3, "numbers that are not used may be anything", 3, desk.emit(0, Answers.OUT, 5 + 8 * 7 + 64 * 7, -5));
        Answers.due(3, "numbers that are not used may be anything", 4, desk.emit(0, Answers.BACK, 5 + 8 * 6 + 64 * 7, 99));
        Answers.due(3, "numbers that are not used may be anything", 5, desk.emit(0, Answers.CALL, 5 + 8 * 5 + 64 * 7, 0));
        Answers.due(3, "numbers that are not used may be anything", 6, desk.emit(0, Answers.ADD, 0, Integer.MAX_VALUE));
        Answers.due(3, "two procedures", 7, desk.length(0));
        Answers.due(3, "two procedures", 8, desk.length(1));
    }

    private static void emitRefusesWrongNumbers() {
        ProcedureDesk desk = Answers.desk(1, 2);
        for (int op = 0; op < 8; op++) {
            Answers.due(3, "p is -1", BAD, desk.emit(-1, op, 0, 1));
            Answers.due(3, "p is 2", BAD, desk.emit(2, op, 0, 1));
            Answers.due(3, "abc is -1", BAD, desk.emit(0, op, -1, 1));
            Answers.due(3, "abc is 512", BAD, desk.emit(0, op, 512, 1));
            for (int far : FAR) {
                Answers.due(3, "p is " + far, BAD, desk.emit(far, op, 0, 1));
                Answers.due(3, "abc is " + far, BAD, desk.emit(0, op, far, 1));
            }
        }
        Answers.due(3, "op is -1", BAD, desk.emit(0, -1, 0, 1));
        Answers.due(3, "op is 8", BAD, desk.emit(0, 8, 0, 1));
        for (int far : FAR) {
            Answers.due(3, "op is " + far, BAD, desk.emit(0, far, 0, 1));
        }
        Answers.due(3, "nothing was emitted", 0, desk.length(0));
        Answers.due(3, "nothing was emitted", 0, desk.length(1));
    }

    private static void emitRefusesWrongRegisters() {
        for (int op = 0; op < 8; op++) {
            for (int number = 0; number < 512; number++) {
                int a = number % 8;
                int b = number / 8 % 8;
                int c = number / 64;
                boolean arithmetic = op == Answers.ADD || op == Answers.SUB || op == Answers.LESS;
                boolean wrong = a > 5 || arithmetic && (b > 5 || c > 5) || op == Answers.CALL && b > 5;
                ProcedureDesk desk = Answers.desk(1, 1);
                String what = "op " + op + " with " + a + " " + b + " " + c;
                Answers.due(3, what, wrong ? BAD : 0, desk.emit(0, op, number, 1));
                Answers.due(3, what + ", length", wrong ? 0 : 1, desk.length(0));
            }
        }
    }

    private static void emitRefusesWrongForks() {
        ProcedureDesk desk = Answers.desk(0);
        for (int position = 0; position < 8; position++) {
            for (int n = -2; n <= 10; n++) {
                boolean fits = n > position && n <= 8;
                Answers.due(3, "FORK at " + position + " to " + n, fits ? position : BAD,
                    desk.emit(0, Answers.FORK, 0, n));
                if (fits) {
                    desk.drop(0);
                }
            }
            for (int far : FAR) {
                Answers.due(3, "FORK to " + far, BAD, desk.emit(0, Answers.FORK, 0, far));
            }
            Answers.put(desk, 0, Answers.SET, 0);
        }
    }

    private static void emitRefusesWrongCalls() {
        for (int parameters = 0; parameters <= 3; parameters++) {
            ProcedureDesk desk = Answers.desk(0, parameters);
            for (int b = 0; b < 8; b++) {
                boolean fits = b + parameters <= 6;
                Answers.due(3, "CALL of " + parameters + " parameters with b " + b, fits ? 0 : BAD,
                    desk.emit(0, Answers.CALL, Answers.abc(0, b, 0), 1));
                desk.drop(0);
            }
            Answers.due(3, "CALL of -1", BAD, desk.emit(0, Answers.CALL, 0, -1));
            Answers.due(3, "CALL of 2, not declared", BAD, desk.emit(0, Answers.CALL, 0, 2));
            Answers.due(3, "CALL of 5, never declared", BAD, desk.emit(0, Answers.CALL, 0, 5));
            for (int far : FAR) {
                Answers.due(3, "CALL of " + far, BAD, desk.emit(0, Answers.CALL, 0, far));
            }
            Answers.due(3, "CALL of itself", 0, desk.emit(0, Answers.CALL, 0, 0));
            Answers.due(3, "CALL of an earlier one", 0, desk.emit(1, Answers.CALL, 0, 0));
        }
    }

    private static void emitFull() {
        ProcedureDesk desk = Answers.desk(0, 0);
        Answers.fill(desk, 0, 8, Answers.SET, 0, 0, 1);
        for (int op = 0; op < 8; op++) {
            int want = op == Answers.FORK ? BAD : FULL;
            Answers.due(3, "ninth, op " + op, want, desk.emit(0, op, 0, 1));
        }
        Answers.due(3, "FORK has no n behind the end", BAD, desk.emit(0, Answers.FORK, 0, 8));
        Answers.due(3, "FORK has no n behind the end", BAD, desk.emit(0, Answers.FORK, 0, 9));
        Answers.due(3, "BAD before FULL, op", BAD, desk.emit(0, 8, 0, 0));
        Answers.due(3, "BAD before FULL, abc", BAD, desk.emit(0, Answers.SET, 512, 0));
        Answers.due(3, "BAD before FULL, a", BAD, desk.emit(0, Answers.SET, 6, 0));
        Answers.due(3, "BAD before FULL, b", BAD, desk.emit(0, Answers.ADD, Answers.abc(0, 6, 0), 0));
        Answers.due(3, "BAD before FULL, c", BAD, desk.emit(0, Answers.ADD, Answers.abc(0, 0, 6), 0));
        Answers.due(3, "BAD before FULL, CALL", BAD, desk.emit(0, Answers.CALL, 0, 2));
        Answers.due(3, "still eight", 8, desk.length(0));
        Answers.due(3, "the other one is not full", 0, desk.emit(1, Answers.SET, 0, 0));
        desk.drop(0);
        Answers.due(3, "room again", 7, desk.emit(0, Answers.SET, 0, 0));
    }

    private static void emitKeepsItsNumbers() {
        ProcedureDesk desk = Answers.desk(3);
        Answers.put(desk, 0, Answers.SUB, 4, 2, 1, 77);
        Answers.put(desk, 0, Answers.BACK, 4, 7, 7, 0);
        desk.run(1, 20, 300);
        Answers.due(3, "a, b and c in their order", 280, desk.result());
        desk.drop(0);
        desk.drop(0);
        Answers.put(desk, 0, Answers.SET, 5, 7, 7, Integer.MIN_VALUE);
        Answers.put(desk, 0, Answers.BACK, 5);
        desk.run(1, 20, 300);
        Answers.due(3, "a new instruction in a dropped one's place", Integer.MIN_VALUE, desk.result());
    }

    private static ProcedureDesk deskThatRan() {
        ProcedureDesk desk = Answers.desk(1, 0);
        Answers.put(desk, 0, Answers.OUT, 0);
        Answers.put(desk, 0, Answers.BACK, 0);
        Answers.due(7, "run(9)", DONE, desk.run(9, 0, 0));
        return desk;
    }

    private static void dueThatRun(int promise, String what, ProcedureDesk desk) {
        Answers.dueRun(promise, what, desk, DONE, 9, 2, 9);
    }

    private static void emitForgetsTheRun() {
        ProcedureDesk desk = deskThatRan();
        desk.emit(2, Answers.SET, 0, 0);
        desk.emit(0, 8, 0, 0);
        desk.emit(0, Answers.SET, 512, 0);
        desk.emit(0, Answers.SET, 6, 0);
        desk.emit(0, Answers.LESS, Answers.abc(0, 6, 0), 0);
        desk.emit(0, Answers.FORK, 0, 2);
        desk.emit(0, Answers.CALL, 0, 2);
        dueThatRun(3, "after emits that are BAD", desk);
        Answers.put(desk, 1, Answers.SET, 0);
        Answers.dueNoRun(3, "after an emit to another procedure", desk);
        Answers.fill(desk, 1, 7, Answers.SET, 0, 0, 0);
        desk.run(9, 0, 0);
        Answers.due(3, "full", FULL, desk.emit(1, Answers.SET, 0, 0));
        dueThatRun(3, "after an emit that is FULL", desk);
    }

    private static void drops() {
        ProcedureDesk desk = Answers.desk(1, 0);
        Answers.due(4, "none to drop", BAD, desk.drop(0));
        Answers.fill(desk, 0, 8, Answers.ADD, 0, 0, 0);
        Answers.put(desk, 1, Answers.SET, 0);
        for (int left = 7; left >= 0; left--) {
            Answers.due(4, "left", left, desk.drop(0));
            Answers.due(4, "length", left, desk.length(0));
            desk.run(1, 0, 0);
            Answers.due(4, "instructions that run", left, desk.steps());
        }
        Answers.due(4, "none left", BAD, desk.drop(0));
        Answers.due(4, "none left", 0, desk.length(0));
        Answers.due(4, "the other procedure", 1, desk.length(1));
        Answers.due(4, "drop(-1)", BAD, desk.drop(-1));
        Answers.due(4, "drop(2)", BAD, desk.drop(2));
        Answers.due(4, "drop(5)", BAD, desk.drop(5));
        for (int far : FAR) {
            Answers.due(4, "drop(" + far + ")", BAD, desk.drop(far));
        }
    }

    private static void dropForgetsTheRun() {
        ProcedureDesk desk = deskThatRan();
        Answers.due(4, "none to drop", BAD, desk.drop(1));
        Answers.due(4, "not declared", BAD, desk.drop(2));
        Answers.due(4, "not declared", BAD, desk.drop(-1));
        dueThatRun(4, "after drops that are BAD", desk);
        Answers.due(4, "left", 1, desk.drop(0));
        Answers.dueNoRun(4, "after a drop", desk);
    }

    private static void clears() {
        ProcedureDesk desk = deskThatRan();
        desk.clear();
        Answers.dueNoRun(5, "after clear", desk);
        for (int p = 0; p < 5; p++) {
            Answers.due(5, "length after clear", BAD, desk.length(p));
            Answers.due(5, "parameters after clear", 0, desk.parametersThatMatter(p));
            Answers.due(5, "result after clear", false, desk.resultMatters(p));
            Answers.due(5, "instructions after clear", 0, desk.instructionsThatMatter(p));
        }
        Answers.due(5, "run after clear", BAD, desk.run(1, 1, 1));
        Answers.due(5, "declare after clear", 0, desk.declare(2));
        Answers.due(5, "no instructions after clear", 0, desk.length(0));
        Answers.due(5, "one procedure after clear", BAD, desk.length(1));
        Answers.due(5, "first position after clear", 0, desk.emit(0, Answers.BACK, 1, 0));
        desk.run(3, 4, 5);
        Answers.dueRun(5, "a run after clear", desk, DONE, 4, 1);
        desk.clear();
        desk.clear();
        for (int p = 0; p < 5; p++) {
            Answers.due(5, "declare after two clears", p, desk.declare(0));
        }
        new ProcedureDesk().clear();
    }

    private static void lengths() {
        ProcedureDesk desk = Answers.desk(0, 3);
        for (int count = 0; count <= 8; count++) {
            Answers.due(6, "length(1)", count, desk.length(1));
            Answers.due(6, "length(0)", 0, desk.length(0));
            desk.emit(1, Answers.SET, 0, 0);
        }
        Answers.due(6, "length(1), full", 8, desk.length(1));
        Answers.due(6, "length(-1)", BAD, desk.length(-1));
        Answers.due(6, "length(2)", BAD, desk.length(2));
        Answers.due(6, "length(5)", BAD, desk.length(5));
        for (int far : FAR) {
            Answers.due(6, "length(" + far + ")", BAD, desk.length(far));
        }
    }

    private static void declareKeepsTheRun() {
        ProcedureDesk desk = deskThatRan();
        Answers.due(16, "declare", 2, desk.declare(3));
        dueThatRun(16, "after declare", desk);
        desk.declare(0);
        desk.declare(0);
        Answers.due(16, "declare, BAD", BAD, desk.declare(7));
        Answers.due(16, "declare, FULL", FULL, desk.declare(0));
        dueThatRun(16, "after declares that are BAD and FULL", desk);
    }
}
