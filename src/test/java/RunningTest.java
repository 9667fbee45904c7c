/** Promises 7 to 12: run, outcome, result, steps, outs and out. */
public final class RunningTest {
    private static final int BAD = ProcedureDesk.BAD;
    private static final int DONE = ProcedureDesk.DONE;
    private static final int TIRED = ProcedureDesk.TIRED;
    private static final int DEEP = ProcedureDesk.DEEP;
    private static final int LEAST = Integer.MIN_VALUE;
    private static final int GREATEST = Integer.MAX_VALUE;

    public static void main(String[] args) {
        runsNothing();
        parametersOfTheFirst();
        arithmetic();
        forks();
        calls();
        callsStartAfresh();
        callsWithoutParametersStartAtZero();
        callWithSixAsFirstRegister();
        ends();
        tiredAtTheEdge();
        tiredBeforeDeep();
        deepAtTheEdge();
        endsAreNotInstructions();
        runsAreApart();
        outsBeyondSixteen();
        questionsChangeNothing();
        Answers.end();
    }

    private static void runsNothing() {
        ProcedureDesk desk = new ProcedureDesk();
        Answers.due(7, "no procedure", BAD, desk.run(1, 2, 3));
        Answers.dueNoRun(7, "no procedure", desk);
        desk.declare(3);
        Answers.dueNoRun(8, "declared, not run", desk);
        Answers.due(7, "no instruction", DONE, desk.run(1, 2, 3));
        Answers.dueRun(8, "no instruction", desk, DONE, 0, 0);
    }

    private static void parametersOfTheFirst() {
        int[] given = {11, 22, 33, 0, 0, 0};
        for (int parameters = 0; parameters <= 3; parameters++) {
            for (int register = 0; register < 6; register++) {
                ProcedureDesk desk = Answers.desk(parameters);
                Answers.put(desk, 0, Answers.BACK, register);
                Answers.due(7, "run", DONE, desk.run(11, 22, 33));
                int want = register < parameters ? given[register] : 0;
                Answers.dueRun(7, parameters + " parameters, register " + register, desk, DONE, want, 1);
            }
        }
    }

    private static void arithmetic() {
        int[] numbers = {0, 1, -1, 5, -7, LEAST, LEAST + 1, GREATEST, GREATEST - 1, 1 << 30};
        for (int x : numbers) {
            ProcedureDesk desk = deskOfSums();
            for (int y : numbers) {
                Answers.due(7, "run", DONE, desk.run(x, y, 9));
                Answers.dueRun(9, x + " and " + y, desk, DONE, GREATEST, 8, x + y, x - y, x < y ? 1 : 0);
            }
        }
    }

    private static ProcedureDesk deskOfSums() {
        ProcedureDesk desk = Answers.desk(2);
        Answers.put(desk, 0, Answers.ADD, 2, 0, 1, 0);
        Answers.put(desk, 0, Answers.OUT, 2);
        Answers.put(desk, 0, Answers.SUB, 2, 0, 1, 0);
        Answers.put(desk, 0, Answers.OUT, 2);
        Answers.put(desk, 0, Answers.LESS, 1, 0, 1, 0);
        Answers.put(desk, 0, Answers.OUT, 1);
        Answers.put(desk, 0, Answers.SET, 5, 0, 0, GREATEST);
        Answers.put(desk, 0, Answers.BACK, 5);
        return desk;
    }

    private static void forks() {
        ProcedureDesk desk = Answers.desk(1);
        Answers.put(desk, 0, Answers.FORK, 0, 0, 0, 3);
        Answers.put(desk, 0, Answers.SET, 1, 0, 0, 5);
        Answers.put(desk, 0, Answers.BACK, 1);
        Answers.put(desk, 0, Answers.SET, 1, 0, 0, 6);
        Answers.put(desk, 0, Answers.BACK, 1);
        desk.run(0, 0, 0);
        Answers.dueRun(7, "FORK at 0", desk, DONE, 6, 3);
        for (int x : new int[] {1, -1, LEAST, GREATEST}) {
            desk.run(x, 0, 0);
            Answers.dueRun(7, "FORK at " + x, desk, DONE, 5, 3);
        }
        for (int n = 1; n <= 8; n++) {
            ProcedureDesk other = Answers.desk(1);
            Answers.put(other, 0, Answers.FORK, 0, 0, 0, n);
            Answers.put(other, 0, Answers.OUT, 0);
            Answers.put(other, 0, Answers.BACK, 0);
            other.run(4, 0, 0);
            Answers.dueRun(7, "FORK to " + n + ", not taken", other, DONE, 4, 3, 4);
            other.run(0, 0, 0);
            int[] outs = n == 1 ? new int[1] : new int[0];
            Answers.dueRun(7, "FORK to " + n + ", taken", other, DONE, 0, n >= 3 ? 1 : 4 - n, outs);
        }
    }

    private static void calls() {
        for (int b = 0; b <= 3; b++) {
            for (int a = 0; a < 6; a++) {
                ProcedureDesk desk = Answers.desk(0, 3);
                for (int register = 0; register < 6; register++) {
                    Answers.put(desk, 0, Answers.SET, register, 0, 0, 10 + register);
                }
                Answers.put(desk, 0, Answers.CALL, a, b, 0, 1);
                Answers.put(desk, 0, Answers.BACK, a);
                Answers.put(desk, 1, Answers.OUT, 0);
                Answers.put(desk, 1, Answers.OUT, 1);
                Answers.put(desk, 1, Answers.OUT, 2);
                Answers.put(desk, 1, Answers.OUT, 3);
                Answers.put(desk, 1, Answers.ADD, 5, 0, 2, 0);
                Answers.put(desk, 1, Answers.BACK, 5);
                desk.run(0, 0, 0);
                Answers.dueRun(7, "CALL " + a + " " + b, desk, DONE, 22 + 2 * b, 14, 10 + b, 11 + b, 12 + b, 0);
            }
        }
    }

    private static void callsStartAfresh() {
        ProcedureDesk desk = Answers.desk(1, 1);
        Answers.put(desk, 0, Answers.CALL, 1, 0, 0, 1);
        Answers.put(desk, 0, Answers.CALL, 2, 0, 0, 1);
        Answers.put(desk, 0, Answers.OUT, 0);
        Answers.put(desk, 0, Answers.OUT, 3);
        Answers.put(desk, 0, Answers.ADD, 1, 1, 2, 0);
        Answers.put(desk, 0, Answers.BACK, 1);
        Answers.put(desk, 1, Answers.ADD, 3, 3, 0, 0);
        Answers.put(desk, 1, Answers.ADD, 0, 0, 0, 0);
        Answers.put(desk, 1, Answers.BACK, 3);
        desk.run(7, 0, 0);
        Answers.dueRun(7, "an activation has registers of its own", desk, DONE, 14, 12, 7, 0);
    }

    private static void callsWithoutParametersStartAtZero() {
        ProcedureDesk desk = Answers.desk(0, 0);
        for (int register = 0; register < 6; register++) {
            Answers.put(desk, 1, Answers.OUT, register);
        }
        Answers.put(desk, 1, Answers.SET, 0, 0, 0, 8);
        Answers.put(desk, 1, Answers.SET, 5, 0, 0, 9);
        Answers.put(desk, 0, Answers.CALL, 1, 0, 0, 1);
        Answers.put(desk, 0, Answers.CALL, 1, 0, 0, 1);
        desk.run(7, 7, 7);
        Answers.dueRun(7, "a second call where the first one left numbers", desk, DONE, 0, 18, new int[12]);
    }

    private static void callWithSixAsFirstRegister() {
        ProcedureDesk desk = Answers.desk(1, 0);
        Answers.put(desk, 0, Answers.CALL, 0, 6, 7, 1);
        Answers.put(desk, 0, Answers.BACK, 0);
        Answers.put(desk, 1, Answers.OUT, 0);
        desk.run(7, 0, 0);
        Answers.dueRun(7, "a call without parameters", desk, DONE, 0, 3, 0);
    }

    private static void ends() {
        ProcedureDesk desk = Answers.desk(1, 1);
        Answers.put(desk, 0, Answers.CALL, 0, 0, 0, 1);
        Answers.put(desk, 0, Answers.OUT, 0);
        Answers.put(desk, 0, Answers.SET, 1, 0, 0, 5);
        desk.run(4, 0, 0);
        Answers.dueRun(9, "without BACK the result is 0", desk, DONE, 0, 3, 0);
        Answers.fill(desk, 1, 8, Answers.ADD, 0, 0, 0);
        desk.run(4, 0, 0);
        Answers.dueRun(9, "behind the eighth instruction the result is 0", desk, DONE, 0, 11, 0);
        Answers.put(desk, 0, Answers.BACK, 1);
        Answers.put(desk, 0, Answers.OUT, 1);
        desk.run(4, 0, 0);
        Answers.dueRun(9, "BACK ends before what stands behind it", desk, DONE, 5, 12, 0);
    }

    /** Two calls of 1, which calls 2 eight times, which puts out eight times, make 146; OUTs make the rest. */
    private static ProcedureDesk deskOfSteps(int steps) {
        ProcedureDesk desk = Answers.desk(1, 1, 1);
        Answers.put(desk, 0, Answers.CALL, 5, 0, 0, 1);
        Answers.put(desk, 0, Answers.CALL, 5, 0, 0, 1);
        Answers.fill(desk, 1, 8, Answers.CALL, 5, 0, 2);
        Answers.fill(desk, 2, 8, Answers.OUT, 0, 0, 0);
        Answers.due(7, "146 steps are there", DONE, desk.run(1, 0, 0));
        Answers.due(10, "146 steps are there", 146, desk.steps());
        Answers.fill(desk, 0, steps - 146, Answers.OUT, 0, 0, 0);
        return desk;
    }

    private static int[] ones(int count) {
        int[] ones = new int[count];
        java.util.Arrays.fill(ones, 1);
        return ones;
    }

    private static void tiredAtTheEdge() {
        for (int steps = 149; steps <= 152; steps++) {
            ProcedureDesk desk = deskOfSteps(steps);
            int want = steps <= 150 ? DONE : TIRED;
            int carriedOut = Math.min(150, steps);
            Answers.due(7, steps + " steps", want, desk.run(1, 0, 0));
            Answers.dueRun(8, steps + " steps", desk, want, 0, carriedOut, ones(carriedOut - 18));
        }
        ProcedureDesk back = deskOfSteps(149);
        Answers.put(back, 0, Answers.BACK, 0);
        Answers.due(7, "BACK as instruction 150", DONE, back.run(1, 0, 0));
        Answers.dueRun(9, "BACK as instruction 150", back, DONE, 1, 150, ones(131));
        ProcedureDesk late = deskOfSteps(150);
        Answers.put(late, 0, Answers.BACK, 0);
        Answers.due(7, "BACK as instruction 151", TIRED, late.run(1, 0, 0));
        Answers.dueRun(9, "BACK as instruction 151", late, TIRED, 0, 150, ones(132));
    }

    private static void tiredBeforeDeep() {
        for (int sets = 2; sets <= 5; sets++) {
            // The CALL in the tenth activation is looked at when 146 + sets instructions were carried out.
            ProcedureDesk desk = deskTiredOrDeep(sets);
            int want = sets < 4 ? DEEP : TIRED;
            String what = "a CALL too many after " + (146 + sets) + " steps";
            Answers.due(7, what, want, desk.run(0, 0, 0));
            Answers.dueRun(8, what, desk, want, 0, Math.min(146 + sets, 150));
        }
    }

    /** 74 steps in two calls of 2, the sets, the call of 1, and 1 eight times whole and a ninth time up to its CALL. */
    private static ProcedureDesk deskTiredOrDeep(int sets) {
        ProcedureDesk desk = Answers.desk(0, 0, 0, 0);
        Answers.fill(desk, 0, 2, Answers.CALL, 5, 0, 2);
        Answers.fill(desk, 0, sets, Answers.SET, 0, 0, 1);
        Answers.put(desk, 0, Answers.CALL, 5, 0, 0, 1);
        Answers.fill(desk, 1, 7, Answers.SET, 0, 0, 1);
        Answers.put(desk, 1, Answers.CALL, 5, 0, 0, 1);
        Answers.fill(desk, 2, 4, Answers.CALL, 5, 0, 3);
        Answers.fill(desk, 3, 8, Answers.SET, 0, 0, 1);
        return desk;
    }

    private static void deepAtTheEdge() {
        // Procedure 0 calls itself as often as its parameter says.
        ProcedureDesk desk = Answers.desk(1);
        Answers.put(desk, 0, Answers.FORK, 0, 0, 0, 5);
        Answers.put(desk, 0, Answers.SET, 1, 0, 0, 1);
        Answers.put(desk, 0, Answers.SUB, 0, 0, 1, 0);
        Answers.put(desk, 0, Answers.CALL, 2, 0, 0, 0);
        Answers.put(desk, 0, Answers.BACK, 2);
        Answers.put(desk, 0, Answers.SET, 2, 0, 0, 42);
        Answers.put(desk, 0, Answers.BACK, 2);
        for (int x = 0; x <= 12; x++) {
            int want = x <= 9 ? DONE : DEEP;
            int steps = x <= 9 ? 5 * x + 3 : 39;
            Answers.due(7, x + " calls", want, desk.run(x, 0, 0));
            Answers.dueRun(7, x + " calls", desk, want, want == DONE ? 42 : 0, steps);
        }
    }

    private static void endsAreNotInstructions() {
        ProcedureDesk desk = Answers.desk(0, 0, 0, 0);
        Answers.fill(desk, 0, 8, Answers.CALL, 0, 0, 1);
        Answers.fill(desk, 1, 8, Answers.CALL, 0, 0, 2);
        Answers.due(7, "calls of an empty procedure", DONE, desk.run(0, 0, 0));
        Answers.dueRun(10, "calls of an empty procedure", desk, DONE, 0, 72);
        Answers.fill(desk, 2, 1, Answers.CALL, 0, 0, 3);
        Answers.due(7, "calls of an empty procedure", DONE, desk.run(0, 0, 0));
        Answers.dueRun(10, "calls of an empty procedure", desk, DONE, 0, 136);
        Answers.fill(desk, 2, 1, Answers.CALL, 0, 0, 3);
        Answers.due(7, "calls of an empty procedure", TIRED, desk.run(0, 0, 0));
        Answers.dueRun(10, "calls of an empty procedure", desk, TIRED, 0, 150);
    }

    private static void runsAreApart() {
        ProcedureDesk desk = Answers.desk(2);
        Answers.put(desk, 0, Answers.OUT, 4);
        Answers.put(desk, 0, Answers.ADD, 4, 0, 1, 0);
        Answers.put(desk, 0, Answers.FORK, 0, 0, 0, 8);
        Answers.put(desk, 0, Answers.OUT, 4);
        Answers.put(desk, 0, Answers.BACK, 4);
        desk.run(3, 4, 5);
        Answers.dueRun(7, "first run", desk, DONE, 7, 5, 0, 7);
        desk.run(0, 4, 5);
        Answers.dueRun(7, "second run", desk, DONE, 0, 3, 0);
        Answers.due(12, "what the first run put out is gone", 0, desk.out(1));
        desk.run(3, 4, 5);
        Answers.dueRun(7, "third run", desk, DONE, 7, 5, 0, 7);
    }

    private static void outsBeyondSixteen() {
        for (int extra = 0; extra <= 2; extra++) {
            // 15, 16 and 17 numbers, 14 of them from two calls of procedure 1.
            ProcedureDesk desk = Answers.desk(1, 1);
            Answers.put(desk, 0, Answers.CALL, 1, 0, 0, 1);
            Answers.put(desk, 0, Answers.ADD, 0, 0, 0, 0);
            Answers.put(desk, 0, Answers.CALL, 1, 0, 0, 1);
            Answers.fill(desk, 0, 1 + extra, Answers.OUT, 0, 0, 0);
            Answers.fill(desk, 1, 7, Answers.OUT, 0, 0, 0);
            desk.run(9, 0, 0);
            int count = 15 + extra;
            Answers.due(11, "outs", count, desk.outs());
            for (int k = 0; k < 16; k++) {
                int want = k >= count ? 0 : k < 7 ? 9 : 18;
                Answers.due(12, count + " numbers, out(" + k + ")", want, desk.out(k));
            }
            for (int k : new int[] {-1, 16, 17, 18, 150, LEAST, GREATEST, 1 << 28}) {
                Answers.due(12, count + " numbers, out(" + k + ")", 0, desk.out(k));
            }
        }
    }

    private static void questionsChangeNothing() {
        ProcedureDesk desk = Answers.desk(1, 0);
        Answers.put(desk, 0, Answers.OUT, 0);
        Answers.put(desk, 0, Answers.BACK, 0);
        desk.run(9, 0, 0);
        for (int p = -1; p <= 2; p++) {
            desk.length(p);
            desk.parametersThatMatter(p);
            desk.resultMatters(p);
            desk.instructionsThatMatter(p);
            desk.out(p);
            Answers.dueRun(8, "after questions", desk, DONE, 9, 2, 9);
        }
        desk.run(9, 0, 0);
        Answers.dueRun(8, "the same run again", desk, DONE, 9, 2, 9);
    }
}
