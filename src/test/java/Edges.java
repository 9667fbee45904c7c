import java.util.function.Supplier;

/** What the tests of edges share: the instructions as words, and a program whose last run tells much. */
abstract class Edges {
    static final int BAD = ProcedureDesk.BAD;
    static final int FULL = ProcedureDesk.FULL;
    static final int NONE = ProcedureDesk.NONE;
    static final int DONE = ProcedureDesk.DONE;
    static final int TIRED = ProcedureDesk.TIRED;
    static final int DEEP = ProcedureDesk.DEEP;
    static final int LEAST = Integer.MIN_VALUE;
    static final int GREATEST = Integer.MAX_VALUE;

    // Numbers far from every range of the document; some are small again once they are shifted, masked or negated.
    static final int[] FAR = {LEAST, LEAST + 1, -512, -8, -2, 1 << 16, 1 << 29, 1 << 30, GREATEST - 1, GREATEST};

    static int[] set(int a, int n) {
        return new int[] {Answers.SET, a, 0, 0, n};
    }

    static int[] add(int a, int b, int c) {
        return new int[] {Answers.ADD, a, b, c, 0};
    }

    static int[] sub(int a, int b, int c) {
        return new int[] {Answers.SUB, a, b, c, 0};
    }

    static int[] less(int a, int b, int c) {
        return new int[] {Answers.LESS, a, b, c, 0};
    }

    static int[] fork(int a, int n) {
        return new int[] {Answers.FORK, a, 0, 0, n};
    }

    static int[] call(int a, int b, int n) {
        return new int[] {Answers.CALL, a, b, 0, n};
    }

    static int[] out(int a) {
        return new int[] {Answers.OUT, a, 0, 0, 0};
    }

    static int[] back(int a) {
        return new int[] {Answers.BACK, a, 0, 0, 0};
    }

    static void body(ProcedureDesk desk, int p, int[]... instructions) {
        for (int[] i : instructions) {
            Answers.put(desk, p, i[0], i[1], i[2], i[3], i[4]);
        }
    }

    static void repeat(ProcedureDesk desk, int p, int count, int[] instruction) {
        for (int i = 0; i < count; i++) {
            body(desk, p, instruction);
        }
    }

    /** A desk with one procedure. */
    static ProcedureDesk single(int parameters, int[]... instructions) {
        ProcedureDesk desk = Answers.desk(parameters);
        body(desk, 0, instructions);
        return desk;
    }

    /** Three to five procedures: 0 calls 1, which is full and calls 2; what follows them is empty. */
    static ProcedureDesk built(int procedures) {
        int[] parameters = {2, 2, 1, 3, 0};
        ProcedureDesk desk = new ProcedureDesk();
        for (int p = 0; p < procedures; p++) {
            desk.declare(parameters[p]);
        }
        body(desk, 0, out(0), call(2, 0, 1), out(2), back(2));
        body(desk, 1, add(2, 0, 1), out(2), sub(3, 0, 1), out(3), call(4, 2, 2), out(4), add(5, 2, 4), back(5));
        body(desk, 2, add(0, 0, 0), back(0));
        return desk;
    }

    static Supplier<ProcedureDesk> ran(int procedures) {
        return () -> {
            ProcedureDesk desk = built(procedures);
            Answers.due(7, "run(5, 3, 0)", DONE, desk.run(5, 3, 0));
            return desk;
        };
    }

    /** What ran(..) leaves as its last run. */
    static void dueThatRun(Sentence sentence, String what, ProcedureDesk desk) {
        sentence.dueRun(what, desk, DONE, 24, 14, 5, 8, 2, 16, 24);
    }

    /** A desk whose last run came to the outcome, with 6 put out before. */
    static ProcedureDesk cameTo(int outcome) {
        ProcedureDesk desk = Answers.desk(1, 0, 0);
        body(desk, 0, out(0), call(1, 0, 1), call(1, 0, 1), call(1, 0, 1), back(0));
        if (outcome == DEEP) {
            body(desk, 1, call(1, 0, 1));
        }
        if (outcome == TIRED) {
            repeat(desk, 1, 8, call(1, 0, 2));
            repeat(desk, 2, 8, set(1, 1));
        }
        Answers.due(7, "a run that comes to " + outcome, outcome, desk.run(6, 0, 0));
        return desk;
    }

    /** What cameTo(outcome) leaves as its last run. */
    static void dueCameTo(Sentence sentence, String what, ProcedureDesk desk, int outcome) {
        int result = outcome == DONE ? 6 : 0;
        int steps = outcome == DONE ? 5 : outcome == TIRED ? 150 : 10;
        sentence.dueRun(what + ", came to " + outcome, desk, outcome, result, steps, 6);
    }
}
