/** Promises 13 to 15: parametersThatMatter, resultMatters and instructionsThatMatter. */
public final class MatteringTest {
    private static final int[] NOT_DECLARED = {-1, 2, 5, 31, 32, 33, Integer.MIN_VALUE, Integer.MAX_VALUE};

    public static void main(String[] args) {
        notDeclared();
        emptyProcedures();
        resultOfTheFirst();
        arithmeticReads();
        setsEndLives();
        registersThatAreNoParameters();
        forksJoin();
        forksBehindTheEnd();
        backEndsLives();
        callsReadWhatMatters();
        callsSetTheirRegister();
        resultsThatNobodyNeeds();
        procedureThatNobodyCalls();
        instructionsThatNothingReaches();
        aRingThatNeedsNothing();
        firstCalledByAnother();
        longChain();
        followsTheProgram();
        askedAlone();
        Answers.end();
    }

    private static void dueMatters(String what, ProcedureDesk desk, int p, int parameters, boolean result, int instructions) {
        Answers.due(13, what + ", parameters of " + p, parameters, desk.parametersThatMatter(p));
        Answers.due(14, what + ", result of " + p, result, desk.resultMatters(p));
        Answers.due(15, what + ", instructions of " + p, instructions, desk.instructionsThatMatter(p));
    }

    private static void notDeclared() {
        ProcedureDesk desk = Answers.desk(3, 3);
        Answers.put(desk, 0, Answers.OUT, 0);
        Answers.put(desk, 1, Answers.OUT, 0);
        for (int p : NOT_DECLARED) {
            dueMatters("not declared", desk, p, 0, false, 0);
        }
    }

    private static void emptyProcedures() {
        ProcedureDesk desk = Answers.desk(3, 3);
        dueMatters("without instructions", desk, 0, 0, true, 0);
        dueMatters("without instructions", desk, 1, 0, false, 0);
    }

    private static void resultOfTheFirst() {
        for (int a = 0; a < 6; a++) {
            ProcedureDesk desk = Answers.desk(3);
            Answers.put(desk, 0, Answers.BACK, a);
            dueMatters("BACK " + a, desk, 0, a < 3 ? 1 << a : 0, true, 1);
        }
    }

    private static void arithmeticReads() {
        for (int op = Answers.ADD; op <= Answers.LESS; op++) {
            ProcedureDesk desk = Answers.desk(3);
            Answers.put(desk, 0, op, 4, 1, 2, 0);
            dueMatters("op " + op + ", not needed", desk, 0, 0, true, 0);
            Answers.put(desk, 0, Answers.BACK, 4);
            dueMatters("op " + op + ", needed", desk, 0, 6, true, 3);
            ProcedureDesk own = Answers.desk(3);
            Answers.put(own, 0, op, 1, 1, 0, 0);
            Answers.put(own, 0, Answers.OUT, 1);
            dueMatters("op " + op + " on its own register", own, 0, 3, true, 3);
            ProcedureDesk over = Answers.desk(3);
            Answers.put(over, 0, op, 0, 1, 1, 0);
            Answers.put(over, 0, Answers.OUT, 0);
            dueMatters("op " + op + " over a parameter", over, 0, 2, true, 3);
        }
    }

    private static void setsEndLives() {
        ProcedureDesk desk = Answers.desk(2);
        Answers.put(desk, 0, Answers.SET, 0, 1, 1, 7);
        Answers.put(desk, 0, Answers.SET, 1, 0, 0, 8);
        Answers.put(desk, 0, Answers.SET, 0, 1, 1, 9);
        Answers.put(desk, 0, Answers.OUT, 0);
        dueMatters("SET", desk, 0, 0, true, 12);
        Answers.put(desk, 0, Answers.OUT, 1);
        dueMatters("SET", desk, 0, 0, true, 30);
    }

    private static void registersThatAreNoParameters() {
        for (int parameters = 0; parameters <= 3; parameters++) {
            ProcedureDesk desk = Answers.desk(0, parameters);
            for (int a = 0; a < 6; a++) {
                Answers.put(desk, 1, Answers.OUT, a);
            }
            dueMatters("all registers live", desk, 1, (1 << parameters) - 1, false, 63);
        }
        ProcedureDesk desk = Answers.desk(3, 1);
        Answers.put(desk, 1, Answers.OUT, 0);
        Answers.put(desk, 1, Answers.OUT, 1);
        Answers.put(desk, 0, Answers.CALL, 5, 1, 0, 1);
        dueMatters("a CALL reads parameters alone", desk, 0, 2, true, 1);
    }

    private static void forksJoin() {
        ProcedureDesk desk = Answers.desk(3);
        Answers.put(desk, 0, Answers.FORK, 0, 0, 0, 3);
        Answers.put(desk, 0, Answers.SET, 2, 0, 0, 4);
        Answers.put(desk, 0, Answers.BACK, 1);
        Answers.put(desk, 0, Answers.BACK, 2);
        dueMatters("FORK", desk, 0, 7, true, 13);
        ProcedureDesk same = Answers.desk(3);
        Answers.put(same, 0, Answers.SET, 1, 0, 0, 5);
        Answers.put(same, 0, Answers.FORK, 0, 0, 0, 3);
        Answers.put(same, 0, Answers.SET, 1, 0, 0, 4);
        Answers.put(same, 0, Answers.BACK, 1);
        dueMatters("FORK past a SET", same, 0, 1, true, 15);
    }

    private static void forksBehindTheEnd() {
        for (int n = 1; n <= 8; n++) {
            ProcedureDesk desk = Answers.desk(3);
            Answers.put(desk, 0, Answers.FORK, 2, 0, 0, n);
            dueMatters("FORK to " + n, desk, 0, 4, true, 1);
            Answers.put(desk, 0, Answers.BACK, 1);
            Answers.put(desk, 0, Answers.BACK, 0);
            int want = n == 2 ? 7 : 6;
            dueMatters("FORK to " + n, desk, 0, want, true, 7);
        }
    }

    private static void backEndsLives() {
        ProcedureDesk desk = Answers.desk(3);
        Answers.put(desk, 0, Answers.SET, 1, 0, 0, 1);
        Answers.put(desk, 0, Answers.BACK, 0);
        Answers.put(desk, 0, Answers.OUT, 1);
        Answers.put(desk, 0, Answers.OUT, 2);
        dueMatters("BACK", desk, 0, 1, true, 14);
    }

    private static void callsReadWhatMatters() {
        for (int needed = 0; needed < 8; needed++) {
            for (int b = 0; b <= 3; b++) {
                ProcedureDesk desk = Answers.desk(3, 3);
                Answers.put(desk, 0, Answers.CALL, 5, b, 0, 1);
                Answers.put(desk, 1, Answers.SET, 5);
                for (int i = 0; i < 3; i++) {
                    if ((needed >> i & 1) == 1) {
                        Answers.put(desk, 1, Answers.OUT, i);
                    }
                }
                int outs = (1 << desk.length(1)) - 2;
                dueMatters("called", desk, 1, needed, false, outs);
                dueMatters("calls with b " + b, desk, 0, (needed << b) & 7, true, 1);
            }
        }
    }

    private static void callsSetTheirRegister() {
        ProcedureDesk desk = Answers.desk(2, 1);
        Answers.put(desk, 0, Answers.SET, 1, 0, 0, 3);
        Answers.put(desk, 0, Answers.CALL, 1, 0, 0, 1);
        Answers.put(desk, 0, Answers.BACK, 1);
        Answers.put(desk, 1, Answers.BACK, 0);
        dueMatters("CALL over a SET", desk, 0, 1, true, 6);
        dueMatters("CALL over a SET", desk, 1, 1, true, 1);
        ProcedureDesk own = Answers.desk(2, 1);
        Answers.put(own, 0, Answers.CALL, 0, 0, 0, 1);
        Answers.put(own, 0, Answers.BACK, 0);
        Answers.put(own, 1, Answers.BACK, 0);
        dueMatters("CALL that reads the register it sets", own, 0, 1, true, 3);
    }

    private static void resultsThatNobodyNeeds() {
        ProcedureDesk desk = Answers.desk(1, 1);
        Answers.put(desk, 0, Answers.CALL, 1, 0, 0, 1);
        Answers.put(desk, 1, Answers.SET, 1, 0, 0, 9);
        Answers.put(desk, 1, Answers.ADD, 2, 0, 1, 0);
        Answers.put(desk, 1, Answers.BACK, 2);
        dueMatters("result not needed", desk, 0, 0, true, 1);
        dueMatters("result not needed", desk, 1, 0, false, 4);
        Answers.put(desk, 0, Answers.SET, 1);
        Answers.put(desk, 0, Answers.OUT, 1);
        dueMatters("result set over", desk, 1, 0, false, 4);
        desk.drop(0);
        desk.drop(0);
        Answers.put(desk, 0, Answers.OUT, 1);
        dueMatters("result put out", desk, 0, 1, true, 3);
        dueMatters("result put out", desk, 1, 1, true, 7);
        desk.drop(0);
        Answers.put(desk, 0, Answers.CALL, 1, 0, 0, 1);
        Answers.put(desk, 0, Answers.BACK, 1);
        dueMatters("result of one of two calls needed", desk, 1, 1, true, 7);
        dueMatters("result of one of two calls needed", desk, 0, 1, true, 7);
    }

    private static void procedureThatNobodyCalls() {
        ProcedureDesk desk = Answers.desk(0, 3, 1);
        Answers.put(desk, 1, Answers.CALL, 3, 1, 0, 2);
        Answers.put(desk, 1, Answers.FORK, 3, 0, 0, 3);
        Answers.put(desk, 1, Answers.BACK, 0);
        Answers.put(desk, 2, Answers.BACK, 0);
        dueMatters("called by none", desk, 1, 2, false, 7);
        dueMatters("called by one that nobody calls", desk, 2, 1, true, 1);
    }

    private static void instructionsThatNothingReaches() {
        ProcedureDesk desk = Answers.desk(2, 2);
        Answers.put(desk, 0, Answers.BACK, 0);
        Answers.put(desk, 0, Answers.SET, 2, 0, 0, 1);
        Answers.put(desk, 0, Answers.CALL, 1, 1, 0, 1);
        Answers.put(desk, 0, Answers.OUT, 1);
        Answers.put(desk, 1, Answers.SUB, 0, 0, 1, 0);
        Answers.put(desk, 1, Answers.BACK, 0);
        dueMatters("behind a BACK", desk, 0, 1, true, 15);
        dueMatters("called behind a BACK", desk, 1, 3, true, 3);
    }

    private static void aRingThatNeedsNothing() {
        // Each result is needed only where the other one's is, and each parameter likewise.
        ProcedureDesk desk = Answers.desk(1, 1, 1);
        Answers.put(desk, 0, Answers.CALL, 5, 0, 0, 1);
        Answers.put(desk, 1, Answers.CALL, 1, 0, 0, 2);
        Answers.put(desk, 1, Answers.BACK, 1);
        Answers.put(desk, 2, Answers.CALL, 1, 0, 0, 1);
        Answers.put(desk, 2, Answers.BACK, 1);
        dueMatters("ring", desk, 0, 0, true, 1);
        dueMatters("ring", desk, 1, 0, false, 3);
        dueMatters("ring", desk, 2, 0, false, 3);
        Answers.put(desk, 0, Answers.OUT, 5);
        dueMatters("ring whose result is put out", desk, 1, 0, true, 3);
        dueMatters("ring whose result is put out", desk, 2, 0, true, 3);
        Answers.put(desk, 2, Answers.OUT, 0);
        dueMatters("a read behind BACK", desk, 0, 0, true, 3);
        desk.drop(2);
        desk.drop(2);
        Answers.put(desk, 2, Answers.OUT, 0);
        dueMatters("ring with a read", desk, 0, 1, true, 3);
        dueMatters("ring with a read", desk, 1, 1, true, 3);
        dueMatters("ring with a read", desk, 2, 1, true, 3);
    }

    private static void firstCalledByAnother() {
        ProcedureDesk desk = Answers.desk(1, 0);
        Answers.put(desk, 1, Answers.CALL, 0, 2, 0, 0);
        Answers.put(desk, 0, Answers.BACK, 0);
        dueMatters("a first one whose result its caller leaves", desk, 0, 1, true, 1);
        dueMatters("the caller", desk, 1, 0, false, 1);
    }

    /** All results in turn, then all parameters in turn, each because of the one before. */
    private static void longChain() {
        int[][] orders = {{0, 4, 3, 2, 1}, {0, 1, 2, 3, 4}, {0, 3, 1, 4, 2}};
        for (int[] order : orders) {
            for (boolean back : new boolean[] {true, false}) {
                ProcedureDesk desk = Answers.desk(3, 3, 3, 3, 3);
                chain(desk, order, back);
                String what = "chain from " + order[1] + (back ? "" : " that needs nothing");
                for (int at = 0; at < 5; at++) {
                    int instructions = at == 4 ? back ? 3 : 1 : back ? 31 : 29;
                    dueMatters(what, desk, order[at], back ? 7 : 0, true, instructions);
                }
            }
        }
    }

    /**
     * Each procedure but the last: itself with registers 1 to 3, so that parameter i needs i + 1, then the next one
     * of the order with its own parameter 0 as parameter 2, and that one's result is its own.
     */
    private static void chain(ProcedureDesk desk, int[] order, boolean back) {
        for (int at = 0; at < 5; at++) {
            int p = order[at];
            Answers.put(desk, p, Answers.CALL, 5, 1, 0, p);
            if (at < 4) {
                Answers.put(desk, p, Answers.ADD, 5, 0, 0, 0);
                Answers.put(desk, p, Answers.CALL, 5, 3, 0, order[at + 1]);
                Answers.put(desk, p, Answers.FORK, 4, 0, 0, 4);
                Answers.put(desk, p, Answers.BACK, 5);
            } else if (back) {
                Answers.put(desk, p, Answers.BACK, 0);
            }
        }
    }

    private static void followsTheProgram() {
        ProcedureDesk desk = Answers.desk(1);
        Answers.put(desk, 0, Answers.OUT, 0);
        dueMatters("before drop", desk, 0, 1, true, 1);
        desk.drop(0);
        dueMatters("after drop", desk, 0, 0, true, 0);
        Answers.put(desk, 0, Answers.BACK, 0);
        desk.clear();
        dueMatters("after clear", desk, 0, 0, false, 0);
        desk.declare(1);
        dueMatters("declared again", desk, 0, 0, true, 0);
        Answers.put(desk, 0, Answers.SET, 0);
        dueMatters("built again", desk, 0, 0, true, 0);
        desk.run(1, 0, 0);
        dueMatters("after a run", desk, 0, 0, true, 0);
    }

    /** Each question is asked first after a change, so none leans on what another one has found. */
    private static void askedAlone() {
        ProcedureDesk desk = Answers.desk(2, 1);
        Answers.put(desk, 0, Answers.CALL, 2, 1, 0, 1);
        Answers.put(desk, 1, Answers.ADD, 0, 0, 0, 0);
        Answers.put(desk, 1, Answers.BACK, 0);
        Answers.due(15, "asked first", 2, desk.instructionsThatMatter(1));
        Answers.put(desk, 0, Answers.BACK, 2);
        Answers.due(15, "asked first, result needed", 3, desk.instructionsThatMatter(1));
        desk.drop(0);
        Answers.due(14, "asked first", false, desk.resultMatters(1));
        Answers.put(desk, 0, Answers.BACK, 2);
        Answers.due(14, "asked first, result needed", true, desk.resultMatters(1));
        desk.drop(0);
        Answers.due(13, "asked first", 0, desk.parametersThatMatter(0));
        Answers.put(desk, 0, Answers.BACK, 2);
        Answers.due(13, "asked first, result needed", 2, desk.parametersThatMatter(0));
    }
}
