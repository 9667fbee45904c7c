/** What the tests share: the count of wrong answers, the operations' names and some programs. */
final class Answers {
    static final int SET = 0;
    static final int ADD = 1;
    static final int SUB = 2;
    static final int LESS = 3;
    static final int FORK = 4;
    static final int CALL = 5;
    static final int OUT = 6;
    static final int BACK = 7;

    private static int asked = 0;
    private static int wrong = 0;

    private Answers() {
    }

    static void due(int promise, String what, long want, long got) {
        asked++;
        if (got != want) {
            wrong++;
            System.out.println("promise " + promise + ": " + what + ": answered " + got + ", due is " + want);
        }
    }

    static void due(int promise, String what, boolean want, boolean got) {
        due(promise, what, want ? 1 : 0, got ? 1 : 0);
    }

    /** All that the last run tells; out(k) is asked for each of outs. */
    static void dueRun(int promise, String what, ProcedureDesk desk, int outcome, int result, int steps, int... outs) {
        due(promise, what + ", outcome", outcome, desk.outcome());
        due(promise, what + ", result", result, desk.result());
        due(promise, what + ", steps", steps, desk.steps());
        due(promise, what + ", outs", outs.length, desk.outs());
        for (int k = 0; k < outs.length && k < 16; k++) {
            due(promise, what + ", out(" + k + ")", outs[k], desk.out(k));
        }
    }

    static void dueNoRun(int promise, String what, ProcedureDesk desk) {
        dueRun(promise, what, desk, ProcedureDesk.NONE, 0, 0);
        due(promise, what + ", out(0)", 0, desk.out(0));
    }

    static int abc(int a, int b, int c) {
        return a + 8 * b + 64 * c;
    }

    /** A desk with a procedure for each number of parameters. */
    static ProcedureDesk desk(int... parameters) {
        ProcedureDesk desk = new ProcedureDesk();
        for (int count : parameters) {
            desk.declare(count);
        }
        return desk;
    }

    /** Emits what must be taken: a test that builds its program wrongly tells so. */
    static void put(ProcedureDesk desk, int p, int op, int a, int b, int c, int n) {
        int position = desk.length(p);
        due(3, "emit to " + p + " of " + op + " " + a + " " + b + " " + c + " " + n, position,
            desk.emit(p, op, abc(a, b, c), n));
    }

    static void put(ProcedureDesk desk, int p, int op, int a) {
        put(desk, p, op, a, 0, 0, 0);
    }

    static void fill(ProcedureDesk desk, int p, int count, int op, int a, int b, int n) {
        for (int i = 0; i < count; i++) {
            put(desk, p, op, a, b, 0, n);
        }
    }

    static void end() {
        System.out.println(wrong == 0 ? asked + " answers are as due" : wrong + " of " + asked + " answers are not as due");
        if (wrong != 0) {
            System.exit(1);
        }
    }
}
