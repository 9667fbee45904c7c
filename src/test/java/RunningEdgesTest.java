/** Promises 7 to 12, and the terms of a run: a test of its own for each sentence that names an edge. */
public final class RunningEdgesTest extends Edges {
    private static final int[] NUMBERS = {0, 1, -1, 2, -2, 5, LEAST, LEAST + 1, GREATEST, GREATEST - 1, 1 << 30, -(1 << 30)};

    public static void main(String[] args) {
        sixRegisters();
        registersOfTenActivations();
        parametersAtFirst();
        otherRegistersAtFirst();
        sets();
        adds();
        subtracts();
        compares();
        forks();
        callsSetTheirRegister();
        putsOut();
        goesBack();
        wraps();
        goesOnAtTheNextPosition();
        endsWithoutInstruction();
        callHandsRegistersOn();
        callerGoesOnAfterTheCall();
        beginsWithTheFirst();
        tiredAfterOneHundredAndFifty();
        tiredCountsCalls();
        deepWithTenActivations();
        deepForCallsAlone();
        deepCountsActivationsThatStand();
        tiredIsLookedAtFirst();
        doneWhenTheFirstEnds();
        runTakesParameters();
        runAnswersTheOutcome();
        runBad();
        outcomeOfTheLastRun();
        outcomeNone();
        resultWhenDone();
        resultOtherwise();
        stepsCarriedOut();
        stepsWithoutRun();
        outsCounted();
        outsWithoutRun();
        outFromZeroToFifteen();
        outForAnyOther();
        Answers.end();
    }

    private static void sixRegisters() {
        Sentence s = new Sentence(7, "An ACTIVATION of a procedure has six registers 0 .. 5 (ints)");
        int[] held = {LEAST, -1, 7, 1 << 16, 1 << 24, GREATEST};
        for (int r = 0; r < 6; r++) {
            ProcedureDesk desk = Answers.desk(0);
            for (int i = 0; i < 6; i++) {
                body(desk, 0, set(i, held[i]));
            }
            body(desk, 0, out(r), back(r));
            desk.run(0, 0, 0);
            s.dueRun("register " + r, desk, DONE, held[r], 8, held[r]);
        }
    }

    private static void registersOfTenActivations() {
        Sentence s = new Sentence(7, "An ACTIVATION of a procedure has six registers");
        // Ten activations, each of which looks at its registers again when the ones it called have ended.
        ProcedureDesk desk = single(1, fork(0, 8), set(1, 1), sub(2, 0, 1), add(5, 0, 0), call(3, 2, 0));
        body(desk, 0, out(0), out(5), back(5));
        s.due("run", DONE, desk.run(9, 0, 0));
        s.dueRun("registers of nine callers", desk, DONE, 18, 73,
            1, 2, 2, 4, 3, 6, 4, 8, 5, 10, 6, 12, 7, 14, 8, 16, 9, 18);
        ProcedureDesk last = single(1, fork(0, 5), set(1, 1), sub(0, 0, 1), call(4, 0, 0), back(4));
        body(last, 0, set(5, 77), out(5), back(5));
        s.due("run", DONE, last.run(9, 0, 0));
        s.dueRun("register 5 of the tenth", last, DONE, 77, 49, 77);
    }

    private static void parametersAtFirst() {
        Sentence s = new Sentence(7, "i holds parameter i, for the parameters it has");
        for (int count = 0; count <= 3; count++) {
            ProcedureDesk first = single(count, out(0), out(1), out(2), out(3), out(4), out(5));
            ProcedureDesk called = Answers.desk(0, count);
            body(called, 0, set(0, LEAST), set(1, 20), set(2, GREATEST), call(3, 0, 1));
            body(called, 1, out(0), out(1), out(2), out(3), out(4), out(5));
            int[] want = new int[6];
            int[] given = {LEAST, 20, GREATEST};
            System.arraycopy(given, 0, want, 0, count);
            first.run(LEAST, 20, GREATEST);
            s.dueRun("the first one, " + count + " parameters", first, DONE, 0, 6, want);
            called.run(5, 5, 5);
            s.dueRun("one called, " + count + " parameters", called, DONE, 0, 10, want);
        }
    }

    private static void otherRegistersAtFirst() {
        Sentence s = new Sentence(7, "and the others hold 0");
        ProcedureDesk twice = single(1, out(1), out(2), out(5), add(1, 0, 0), add(2, 0, 0), add(5, 0, 0));
        twice.run(7, 8, 9);
        twice.run(7, 8, 9);
        s.dueRun("in a second run", twice, DONE, 0, 6, 0, 0, 0);
        ProcedureDesk called = Answers.desk(0, 1);
        body(called, 0, set(0, 7), call(1, 0, 1), call(1, 0, 1));
        body(called, 1, out(1), out(2), out(5), add(1, 0, 0), add(2, 0, 0), add(5, 0, 0));
        called.run(0, 0, 0);
        s.dueRun("in a second call", called, DONE, 0, 15, 0, 0, 0, 0, 0, 0);
        ProcedureDesk left = single(0, set(0, 1), set(1, 1), set(2, 1), set(3, 1), set(4, 1), set(5, 1), call(0, 0, 0));
        s.due("a run that leaves numbers in ten activations", DEEP, left.run(0, 0, 0));
        for (int i = 0; i < 7; i++) {
            left.drop(0);
        }
        body(left, 0, add(0, 0, 1), add(0, 0, 2), add(0, 0, 3), add(0, 0, 4), add(0, 0, 5), out(0), call(1, 0, 0));
        left.run(3, 3, 3);
        s.dueRun("after it, in ten activations", left, DEEP, 0, 69, new int[10]);
    }

    private static void sets() {
        Sentence s = new Sentence(7, "SET    register a becomes n");
        for (int n : NUMBERS) {
            for (int a = 0; a < 6; a++) {
                ProcedureDesk desk = single(3, set(a, n), out(0), out(1), out(2), out(a), back(a));
                int[] want = {11, 22, 33, n};
                if (a < 3) {
                    want[a] = n;
                }
                desk.run(11, 22, 33);
                s.dueRun("SET " + a + " " + n, desk, DONE, n, 6, want);
            }
        }
        ProcedureDesk unused = Answers.desk(2);
        unused.emit(0, Answers.SET, Answers.abc(5, 7, 7), 4);
        unused.emit(0, Answers.BACK, Answers.abc(5, 7, 7), 99);
        unused.run(1, 2, 0);
        s.dueRun("b and c are no part of it", unused, DONE, 4, 2);
    }

    /** Each choice of the registers a, b and c with 10, 3 and -4 in registers 0 to 2. */
    private static void dueForEachChoice(Sentence s, int op) {
        for (int a = 0; a < 3; a++) {
            for (int b = 0; b < 3; b++) {
                for (int c = 0; c < 3; c++) {
                    int[] held = {10, 3, -4};
                    int value = op == Answers.ADD ? held[b] + held[c] : op == Answers.SUB ? held[b] - held[c]
                        : held[b] < held[c] ? 1 : 0;
                    ProcedureDesk desk = Answers.desk(3);
                    s.due("emit", 0, desk.emit(0, op, Answers.abc(a, b, c), 50));
                    body(desk, 0, out(0), out(1), out(2), out(3), back(a));
                    desk.run(10, 3, -4);
                    held[a] = value;
                    s.dueRun("registers " + a + " " + b + " " + c, desk, DONE, value, 6, held[0], held[1], held[2], 0);
                }
            }
        }
    }

    private static void adds() {
        Sentence s = new Sentence(7, "ADD    register a becomes register b + register c");
        dueForEachChoice(s, Answers.ADD);
        ProcedureDesk high = single(1, add(4, 0, 0), add(5, 4, 0), add(3, 5, 4), back(3));
        high.run(7, 0, 0);
        s.due("with the last registers", 35, high.result());
    }

    private static void subtracts() {
        Sentence s = new Sentence(7, "SUB    register a becomes register b - register c");
        dueForEachChoice(s, Answers.SUB);
        ProcedureDesk high = single(1, sub(4, 3, 0), sub(5, 0, 4), sub(3, 5, 4), back(3));
        high.run(7, 0, 0);
        s.due("with the last registers", 21, high.result());
    }

    private static void compares() {
        Sentence s = new Sentence(7, "LESS   register a becomes 1 when register b < register c, else 0");
        dueForEachChoice(s, Answers.LESS);
        ProcedureDesk desk = single(2, set(5, 9), less(5, 0, 1), back(5));
        ProcedureDesk same = single(1, set(5, 9), less(5, 0, 0), back(5));
        for (int x : NUMBERS) {
            for (int y : NUMBERS) {
                desk.run(x, y, 0);
                s.due(x + " and " + y, x < y ? 1 : 0, desk.result());
            }
            same.run(x, 0, 0);
            s.due(x + " and itself", 0, same.result());
        }
        desk.run(LEAST, GREATEST, 0);
        s.due("the difference does not fit", 1, desk.result());
        desk.run(GREATEST, LEAST, 0);
        s.due("the difference does not fit", 0, desk.result());
    }

    private static void forks() {
        Sentence s = new Sentence(7, "FORK   when register a is 0 the activation goes on at position n");
        for (int a = 0; a < 3; a++) {
            ProcedureDesk desk = single(3, fork(a, 3), out(a), back(a), set(5, 9), back(5));
            for (int x : NUMBERS) {
                int[] given = {1, 1, 1};
                given[a] = x;
                desk.run(given[0], given[1], given[2]);
                if (x == 0) {
                    s.dueRun("register " + a + " is 0", desk, DONE, 9, 3);
                } else {
                    s.dueRun("register " + a + " is " + x, desk, DONE, x, 3, x);
                }
            }
        }
        for (int position = 0; position < 8; position++) {
            for (int n = position + 1; n <= 8; n++) {
                ProcedureDesk desk = Answers.desk(0);
                repeat(desk, 0, position, set(4, 1));
                body(desk, 0, fork(5, n));
                repeat(desk, 0, 7 - position, out(5));
                desk.run(0, 0, 0);
                int steps = position + 1 + 8 - n;
                s.dueRun("FORK at " + position + " to " + n, desk, DONE, 0, steps, new int[8 - n]);
            }
        }
        ProcedureDesk behind = Answers.desk(0, 0);
        body(behind, 0, call(0, 0, 1), set(1, 5), back(1));
        body(behind, 1, fork(0, 8), set(0, 4), back(0));
        behind.run(0, 0, 0);
        s.dueRun("FORK in one called, behind its last", behind, DONE, 5, 4);
    }

    private static void callsSetTheirRegister() {
        Sentence s = new Sentence(7, "CALL   calls procedure n (see below); register a becomes its result");
        for (int a = 0; a < 6; a++) {
            ProcedureDesk desk = Answers.desk(3, 2);
            body(desk, 0, call(a, 0, 1), out(0), out(1), out(2), out(a), back(a));
            body(desk, 1, sub(0, 0, 1), back(0));
            desk.run(10, 30, 50);
            int[] want = {10, 30, 50, -20};
            if (a < 3) {
                want[a] = -20;
            }
            s.dueRun("register " + a, desk, DONE, -20, 8, want);
        }
        ProcedureDesk each = Answers.desk(0, 0, 0, 0, 0);
        body(each, 0, call(1, 0, 1), call(2, 0, 2), call(3, 0, 3), call(4, 0, 4), out(1), out(2), out(3), out(4));
        for (int p = 1; p < 5; p++) {
            body(each, p, set(0, 10 * p), back(0));
        }
        each.run(0, 0, 0);
        s.dueRun("each procedure by its number", each, DONE, 0, 16, 10, 20, 30, 40);
        ProcedureDesk zero = Answers.desk(1, 0);
        body(zero, 0, call(0, 0, 1), back(0));
        zero.run(8, 0, 0);
        s.dueRun("a result of 0 goes over what was there", zero, DONE, 0, 2);
    }

    private static void putsOut() {
        Sentence s = new Sentence(7, "OUT    register a is put out");
        for (int a = 0; a < 6; a++) {
            for (int x : NUMBERS) {
                ProcedureDesk desk = single(0, set(a, x), out(a), out(a), back(a));
                desk.run(0, 0, 0);
                s.dueRun("register " + a + " with " + x, desk, DONE, x, 4, x, x);
            }
        }
        ProcedureDesk called = Answers.desk(1, 1);
        body(called, 0, out(0), call(1, 0, 1), out(0));
        body(called, 1, add(0, 0, 0), out(0));
        called.run(4, 0, 0);
        s.dueRun("in one called, between its caller's", called, DONE, 0, 5, 4, 8, 4);
    }

    private static void goesBack() {
        Sentence s = new Sentence(7, "BACK   the activation ends with register a as its result");
        for (int a = 0; a < 6; a++) {
            for (int x : NUMBERS) {
                ProcedureDesk desk = single(0, set(a, x), back(a), out(a), set(a, 3), back(a));
                desk.run(0, 0, 0);
                s.dueRun("register " + a + " with " + x, desk, DONE, x, 2);
            }
        }
        ProcedureDesk called = Answers.desk(0, 0, 0);
        body(called, 0, call(0, 0, 1), out(0), back(0), out(0));
        body(called, 1, call(3, 0, 2), add(3, 3, 3), back(3), out(3));
        body(called, 2, set(5, 21), back(5), out(5));
        called.run(0, 0, 0);
        s.dueRun("that activation alone", called, DONE, 42, 8, 42);
    }

    private static void wraps() {
        Sentence s = new Sentence(7, "Sums and differences wrap.");
        ProcedureDesk desk = single(2, add(2, 0, 1), out(2), sub(3, 0, 1), out(3));
        int[][] rows = {
            {GREATEST, 1, LEAST, GREATEST - 1}, {LEAST, -1, GREATEST, LEAST + 1}, {LEAST, 1, LEAST + 1, GREATEST},
            {GREATEST, -1, GREATEST - 1, LEAST}, {LEAST, LEAST, 0, 0}, {GREATEST, GREATEST, -2, 0},
            {0, LEAST, LEAST, LEAST}, {LEAST, GREATEST, -1, 1}, {GREATEST, LEAST, -1, -1}, {1 << 30, 1 << 30, LEAST, 0},
            {1 << 30, -(1 << 30), 0, LEAST}, {-1, LEAST, GREATEST, GREATEST}};
        for (int[] row : rows) {
            desk.run(row[0], row[1], 0);
            s.dueRun(row[0] + " and " + row[1], desk, DONE, 0, 4, row[2], row[3]);
        }
    }

    private static void goesOnAtTheNextPosition() {
        Sentence s = new Sentence(7, "Unless said otherwise the activation goes on at the next position");
        int[][] each = {set(4, 0), add(4, 0, 0), sub(4, 0, 0), less(4, 0, 0), fork(0, 8), call(4, 0, 1), out(0)};
        for (int[] instruction : each) {
            for (int position = 0; position < 7; position++) {
                ProcedureDesk desk = Answers.desk(1, 0);
                repeat(desk, 0, position, instruction);
                body(desk, 0, instruction, back(0));
                desk.run(6, 0, 0);
                s.due("op " + instruction[0] + " at " + position + ", result", 6, desk.result());
                s.due("op " + instruction[0] + " at " + position + ", steps", position + 2, desk.steps());
            }
        }
    }

    private static void endsWithoutInstruction() {
        Sentence s = new Sentence(7, "at a position without instruction it ends with the result 0");
        for (int count = 0; count <= 8; count++) {
            ProcedureDesk first = Answers.desk(1);
            repeat(first, 0, count, add(0, 0, 0));
            s.due("run", DONE, first.run(3, 0, 0));
            s.dueRun("the first one, behind " + count, first, DONE, 0, count);
            ProcedureDesk called = Answers.desk(1, 1, 1);
            body(called, 0, call(0, 0, 1), out(0), set(0, 8), back(0));
            repeat(called, 1, count, add(0, 0, 0));
            repeat(called, 2, 8, out(0));
            s.due("run", DONE, called.run(3, 0, 0));
            s.dueRun("one called, behind " + count, called, DONE, 8, 4 + count, 0);
        }
        ProcedureDesk dropped = single(1, out(0), back(0));
        dropped.drop(0);
        dropped.run(3, 0, 0);
        s.dueRun("where one was dropped", dropped, DONE, 0, 1, 3);
        for (int n = 2; n <= 8; n++) {
            ProcedureDesk forked = single(1, fork(1, n), back(0));
            forked.run(3, 0, 0);
            s.dueRun("FORK to " + n, forked, DONE, 0, 1);
        }
    }

    private static void callHandsRegistersOn() {
        Sentence s = new Sentence(7, "parameter i of the procedure called is what register b + i holds");
        for (int count = 0; count <= 3; count++) {
            for (int b = 0; b + count <= 6; b++) {
                ProcedureDesk desk = Answers.desk(0, count);
                for (int r = 0; r < 6; r++) {
                    body(desk, 0, set(r, 10 + r));
                }
                // The CALL's register is its own first parameter's too, where there is one.
                body(desk, 0, call(Math.min(b, 5), b, 1));
                body(desk, 0, out(5));
                body(desk, 1, out(0), out(1), out(2), set(0, 1), set(1, 1), set(2, 1));
                desk.run(0, 0, 0);
                int[] want = new int[4];
                for (int i = 0; i < count; i++) {
                    want[i] = 10 + b + i;
                }
                want[3] = b >= 5 ? 0 : 15;
                s.dueRun(count + " from register " + b, desk, DONE, 0, 14, want);
            }
        }
        ProcedureDesk own = Answers.desk(3, 3);
        body(own, 0, call(5, 0, 1), out(0), out(1), out(2), out(5));
        body(own, 1, set(0, 7), set(1, 7), set(2, 7), back(0));
        own.run(1, 2, 3);
        s.dueRun("what the one called does to them is its own", own, DONE, 0, 9, 1, 2, 3, 7);
    }

    private static void callerGoesOnAfterTheCall() {
        Sentence s = new Sentence(7, "The new activation runs until it ends; then the calling one goes on after the CALL.");
        for (int position = 0; position < 7; position++) {
            ProcedureDesk desk = Answers.desk(1, 1, 1);
            repeat(desk, 0, position, add(1, 0, 0));
            body(desk, 0, call(1, 0, 1), out(0));
            body(desk, 1, add(0, 0, 0), out(0), call(1, 0, 2), out(0));
            body(desk, 2, add(0, 0, 0), out(0));
            s.due("run", DONE, desk.run(5, 0, 0));
            s.dueRun("CALL at " + position, desk, DONE, 0, position + 8, 10, 20, 10, 5);
        }
        ProcedureDesk last = Answers.desk(1, 0);
        repeat(last, 0, 7, out(0));
        body(last, 0, call(0, 0, 1));
        body(last, 1, set(0, 4), back(0));
        last.run(5, 0, 0);
        s.dueRun("CALL at 7, and then no instruction", last, DONE, 0, 10, 5, 5, 5, 5, 5, 5, 5);
        ProcedureDesk itself = single(1, fork(0, 6), set(1, 1), sub(1, 0, 1), call(2, 1, 0), out(0));
        itself.run(4, 0, 0);
        s.dueRun("a procedure that calls itself", itself, DONE, 0, 21, 1, 2, 3, 4);
    }

    private static void beginsWithTheFirst() {
        Sentence s = new Sentence(7, "A RUN begins with an activation of procedure 0.");
        for (int procedures = 1; procedures <= 5; procedures++) {
            ProcedureDesk desk = new ProcedureDesk();
            for (int p = 0; p < procedures; p++) {
                desk.declare(p % 4);
                body(desk, p, set(5, 30 + p), back(5));
            }
            desk.run(1, 2, 3);
            s.dueRun("of " + procedures, desk, DONE, 30, 2);
        }
        ProcedureDesk empty = Answers.desk(1, 1);
        body(empty, 1, out(0), back(0));
        empty.run(4, 0, 0);
        s.dueRun("although it has no instructions", empty, DONE, 0, 0);
        ProcedureDesk again = single(1, fork(0, 3), out(0), back(0), set(1, 2), back(1));
        again.run(0, 0, 0);
        again.run(6, 0, 0);
        s.dueRun("each run at position 0", again, DONE, 6, 3, 6);
    }

    /** Two calls of 1 make 146 instructions; procedure 0 has room for six more, and 3 and 4 are empty. */
    private static ProcedureDesk longDesk() {
        ProcedureDesk desk = Answers.desk(1, 0, 0, 0, 0);
        body(desk, 0, call(5, 6, 1), call(5, 6, 1));
        repeat(desk, 1, 8, call(5, 6, 2));
        repeat(desk, 2, 8, set(5, 1));
        return desk;
    }

    private static void tiredAfterOneHundredAndFifty() {
        Sentence s = new Sentence(8, "when 150 instructions were carried out, the run is TIRED");
        int[][] each = {set(4, 3), add(4, 0, 0), sub(4, 0, 0), less(4, 0, 0), fork(0, 8), call(4, 6, 3), out(0), back(0)};
        for (int[] instruction : each) {
            int op = instruction[0];
            ProcedureDesk fits = longDesk();
            repeat(fits, 0, 3, set(4, 2));
            body(fits, 0, instruction);
            s.due("op " + op + " as number 150, run", DONE, fits.run(6, 0, 0));
            s.dueRun("op " + op + " as number 150", fits, DONE, op == Answers.BACK ? 6 : 0, 150,
                op == Answers.OUT ? new int[] {6} : new int[0]);
            ProcedureDesk late = longDesk();
            repeat(late, 0, 4, set(4, 2));
            body(late, 0, instruction);
            s.due("op " + op + " as number 151, run", TIRED, late.run(6, 0, 0));
            s.dueRun("op " + op + " as number 151", late, TIRED, 0, 150);
        }
        ProcedureDesk inside = longDesk();
        body(inside, 0, call(5, 6, 3));
        body(inside, 3, out(0), out(0), out(0));
        s.due("number 150 ends one called and its caller, run", DONE, inside.run(0, 0, 0));
        s.dueRun("number 150 ends one called and its caller", inside, DONE, 0, 150, 0, 0, 0);
        body(inside, 3, out(0));
        s.due("number 151 in one called, run", TIRED, inside.run(0, 0, 0));
        s.dueRun("number 151 in one called", inside, TIRED, 0, 150, 0, 0, 0);
        inside.drop(3);
        body(inside, 0, out(0));
        s.due("number 151 in the caller, run", TIRED, inside.run(0, 0, 0));
        s.dueRun("number 151 in the caller", inside, TIRED, 0, 150, 0, 0, 0);
    }

    private static void tiredCountsCalls() {
        Sentence s = new Sentence(8, "Before every instruction (CALLs included) it looks");
        ProcedureDesk calls = Answers.desk(0, 0, 0, 0);
        repeat(calls, 0, 8, call(0, 0, 1));
        repeat(calls, 1, 8, call(0, 0, 2));
        s.due("run", DONE, calls.run(0, 0, 0));
        s.dueRun("72 CALLs and nothing else", calls, DONE, 0, 72);
        body(calls, 2, call(0, 0, 3));
        s.due("run", DONE, calls.run(0, 0, 0));
        s.dueRun("136 CALLs and nothing else", calls, DONE, 0, 136);
        body(calls, 2, call(0, 0, 3));
        s.due("run", TIRED, calls.run(0, 0, 0));
        s.dueRun("200 CALLs and nothing else", calls, TIRED, 0, 150);
        ProcedureDesk into = longDesk();
        repeat(into, 0, 3, set(4, 2));
        body(into, 0, call(4, 6, 3));
        body(into, 3, out(0));
        s.due("run", TIRED, into.run(0, 0, 0));
        s.dueRun("a CALL as number 150, and one instruction in what it calls", into, TIRED, 0, 150);
    }

    /** Procedure 0 calls itself as often as its parameter says, and the last one does the rest. */
    private static ProcedureDesk nested(int[]... rest) {
        ProcedureDesk desk = Answers.desk(1, 0);
        body(desk, 0, fork(0, 5), set(1, 1), sub(0, 0, 1), call(2, 0, 0), back(2));
        body(desk, 0, rest);
        return desk;
    }

    private static void deepWithTenActivations() {
        Sentence s = new Sentence(8, "when the instruction is a CALL and there are ten activations, the run is DEEP");
        ProcedureDesk desk = nested(set(2, 42), back(2));
        for (int x = 0; x <= 9; x++) {
            s.due("run", DONE, desk.run(x, 0, 0));
            s.dueRun(x + 1 + " activations", desk, DONE, 42, 5 * x + 3);
        }
        for (int x : new int[] {10, 11, 20, GREATEST, -1}) {
            s.due("run", DEEP, desk.run(x, 0, 0));
            s.dueRun(x + " calls", desk, DEEP, 0, 39);
        }
        ProcedureDesk empty = nested(call(2, 0, 1), back(2));
        s.due("run", DONE, empty.run(8, 0, 0));
        s.dueRun("a CALL in the ninth", empty, DONE, 0, 43);
        s.due("run", DEEP, empty.run(9, 0, 0));
        s.dueRun("a CALL in the tenth, of one without instructions", empty, DEEP, 0, 37);
        ProcedureDesk ring = Answers.desk(0, 0, 0, 0, 0);
        for (int p = 0; p < 5; p++) {
            body(ring, p, set(0, p), out(0), call(1, 6, (p + 1) % 5));
        }
        s.due("run", DEEP, ring.run(0, 0, 0));
        s.dueRun("activations of five procedures", ring, DEEP, 0, 29, 0, 1, 2, 3, 4, 0, 1, 2, 3, 4);
    }

    private static void deepForCallsAlone() {
        Sentence s = new Sentence(8, "when the instruction is a CALL and there are ten activations");
        ProcedureDesk sums = nested(set(3, 5), add(3, 3, 3), sub(4, 0, 3));
        s.due("run", DONE, sums.run(9, 0, 0));
        s.dueRun("SET, ADD and SUB in the tenth", sums, DONE, 0, 49);
        ProcedureDesk others = nested(less(3, 0, 1), out(3), back(3));
        s.due("run", DONE, others.run(9, 0, 0));
        s.dueRun("LESS, OUT and BACK in the tenth", others, DONE, 0, 49, 0);
        ProcedureDesk past = nested(fork(0, 7), call(2, 0, 1), out(0));
        s.due("run", DONE, past.run(9, 0, 0));
        s.dueRun("FORK past a CALL in the tenth", past, DONE, 0, 48, 0);
        ProcedureDesk to = nested(out(0), fork(0, 7), call(2, 0, 1));
        s.due("run", DEEP, to.run(9, 0, 0));
        s.dueRun("FORK to a CALL in the tenth", to, DEEP, 0, 39, 0);
    }

    private static void deepCountsActivationsThatStand() {
        Sentence s = new Sentence(8, "there are ten activations");
        ProcedureDesk flat = Answers.desk(0, 0, 0);
        repeat(flat, 0, 8, call(0, 6, 1));
        repeat(flat, 1, 8, call(0, 6, 2));
        s.due("run", DONE, flat.run(0, 0, 0));
        s.dueRun("72 CALLs one after another", flat, DONE, 0, 72);
        ProcedureDesk ninth = nested(call(2, 0, 1), call(3, 0, 1), add(2, 2, 3));
        body(ninth, 1, set(0, 4), out(0), back(0));
        s.due("run", DONE, ninth.run(8, 0, 0));
        s.dueRun("two CALLs in the ninth", ninth, DONE, 0, 50, 4, 4);
        ProcedureDesk again = nested(set(2, 42), back(2));
        again.run(10, 0, 0);
        s.due("a run after a DEEP one", DONE, again.run(9, 0, 0));
    }

    private static void tiredIsLookedAtFirst() {
        Sentence s = new Sentence(8, "when 150 instructions were carried out, the run is TIRED; when the instruction is a CALL");
        for (int sets = 0; sets <= 5; sets++) {
            ProcedureDesk desk = Answers.desk(0, 0, 0, 0);
            repeat(desk, 0, 2, call(5, 6, 2));
            repeat(desk, 0, sets, set(0, 1));
            body(desk, 0, call(5, 6, 1));
            // Two calls of 2 make 74 instructions, and 1 nine times up to its CALL 71.
            repeat(desk, 1, 7, set(0, 1));
            body(desk, 1, call(5, 6, 1));
            repeat(desk, 2, 4, call(5, 6, 3));
            repeat(desk, 3, 8, set(0, 1));
            int looked = 74 + sets + 1 + 71;
            int want = looked < 150 ? DEEP : TIRED;
            s.due("run", want, desk.run(0, 0, 0));
            s.dueRun("a CALL in the tenth after " + looked, desk, want, 0, Math.min(looked, 150));
        }
    }

    private static void doneWhenTheFirstEnds() {
        Sentence s = new Sentence(8, "When the first activation ends, the run is DONE.");
        s.due("with no instruction", DONE, Answers.desk(3).run(1, 2, 3));
        s.due("with BACK", DONE, single(1, back(0), out(0)).run(1, 2, 3));
        s.due("behind its last", DONE, single(1, out(0)).run(1, 2, 3));
        ProcedureDesk called = Answers.desk(0, 0);
        body(called, 0, call(0, 6, 1), out(0), call(0, 6, 1), out(0), set(1, 5), back(1));
        body(called, 1, set(0, 3), back(0));
        s.due("run", DONE, called.run(0, 0, 0));
        s.dueRun("not when one called ends with BACK", called, DONE, 5, 10, 3, 3);
        called.drop(1);
        s.due("run", DONE, called.run(0, 0, 0));
        s.dueRun("not when one called ends behind its last", called, DONE, 5, 8, 0, 0);
        ProcedureDesk itself = nested(out(0), back(0));
        s.due("run", DONE, itself.run(3, 0, 0));
        s.dueRun("not when a later one of procedure 0 ends", itself, DONE, 0, 18, 0);
    }

    private static void runTakesParameters() {
        Sentence s = new Sentence(7, "with x, y and z as parameters 0, 1 and 2 of procedure 0, as far as it has them");
        for (int count = 0; count <= 3; count++) {
            ProcedureDesk desk = single(count, out(0), out(1), out(2), out(3), out(4), out(5));
            for (int[] given : new int[][] {{1, 2, 3}, {LEAST, GREATEST, -1}, {GREATEST, -1, LEAST}, {-1, LEAST, GREATEST}}) {
                int[] want = new int[6];
                System.arraycopy(given, 0, want, 0, count);
                desk.run(given[0], given[1], given[2]);
                s.dueRun(count + " parameters", desk, DONE, 0, 6, want);
            }
        }
        ProcedureDesk others = Answers.desk(0, 3);
        body(others, 0, out(0), call(3, 0, 1));
        body(others, 1, out(0), out(1), out(2));
        others.run(1, 2, 3);
        s.dueRun("not those of another one", others, DONE, 0, 5, 0, 0, 0, 0);
    }

    /** 0 and any is DEEP, another number and 0 TIRED, and two others DONE with the first as result. */
    private static ProcedureDesk threeWays() {
        ProcedureDesk desk = Answers.desk(2, 0, 0, 0, 0);
        body(desk, 0, out(0), fork(0, 5), fork(1, 6), out(1), back(0), call(5, 6, 1), call(5, 6, 2));
        body(desk, 1, call(0, 6, 1));
        repeat(desk, 2, 8, call(0, 6, 3));
        repeat(desk, 3, 8, call(0, 6, 4));
        repeat(desk, 4, 3, set(0, 1));
        return desk;
    }

    /** The runs of threeWays in an order in which each comes behind each. */
    private static void runEachWay(Asked asked) {
        int[] order = {DONE, TIRED, DEEP, DONE, DEEP, TIRED, DONE, DONE, TIRED, TIRED, DEEP, DEEP};
        ProcedureDesk desk = threeWays();
        for (int i = 0; i < order.length; i++) {
            int x = order[i] == DEEP ? 0 : 7 + i;
            int y = order[i] == TIRED ? 0 : -i - 1;
            int answer = desk.run(x, y, 9);
            asked.ask("run(" + x + ", " + y + ")", desk, order[i], answer, x, y);
        }
    }

    private interface Asked {
        void ask(String what, ProcedureDesk desk, int way, int answer, int x, int y);
    }

    private static void runAnswersTheOutcome() {
        Sentence s = new Sentence(7, "Answers DONE, TIRED or DEEP");
        runEachWay((what, desk, way, answer, x, y) -> s.due(what, way, answer));
    }

    private static void runBad() {
        Sentence s = new Sentence(7, "BAD, changing nothing, when no procedure is declared");
        s.refused("on a new object", BAD, ProcedureDesk::new, desk -> desk.run(1, 2, 3));
        for (int procedures = 3; procedures <= 5; procedures++) {
            int count = procedures;
            s.refused("after clear", BAD, () -> {
                ProcedureDesk desk = ran(count).get();
                desk.clear();
                return desk;
            }, desk -> desk.run(1, 2, 3));
        }
        ProcedureDesk desk = new ProcedureDesk();
        desk.declare(4);
        s.due("after a declare that was refused", BAD, desk.run(1, 2, 3));
        s.dueNoRun("after BAD", desk);
        desk.declare(0);
        s.dueNoRun("after BAD, one declared", desk);
        s.due("one declared", DONE, desk.run(1, 2, 3));
    }

    private static void outcomeOfTheLastRun() {
        Sentence s = new Sentence(8, "What the last run came to: DONE, TIRED or DEEP");
        runEachWay((what, desk, way, answer, x, y) -> {
            s.due(what, way, desk.outcome());
            desk.length(0);
            desk.parametersThatMatter(0);
            desk.resultMatters(0);
            desk.instructionsThatMatter(0);
            desk.out(0);
            s.due(what + ", after questions", way, desk.outcome());
        });
    }

    private static void outcomeNone() {
        Sentence s = new Sentence(8, "NONE when there is none");
        ProcedureDesk desk = new ProcedureDesk();
        s.due("new object", NONE, desk.outcome());
        desk.run(1, 2, 3);
        s.due("after a BAD run", NONE, desk.outcome());
        desk.declare(1);
        s.due("declared", NONE, desk.outcome());
        desk.emit(0, Answers.OUT, 0, 0);
        s.due("emitted", NONE, desk.outcome());
        for (int outcome = DONE; outcome <= DEEP; outcome++) {
            ProcedureDesk emitted = cameTo(outcome);
            body(emitted, 0, out(0));
            s.due("emit after " + outcome, NONE, emitted.outcome());
            ProcedureDesk dropped = cameTo(outcome);
            dropped.drop(0);
            s.due("drop after " + outcome, NONE, dropped.outcome());
            ProcedureDesk cleared = cameTo(outcome);
            cleared.clear();
            s.due("clear after " + outcome, NONE, cleared.outcome());
        }
    }

    private static void resultWhenDone() {
        Sentence s = new Sentence(9, "The result of the last run when it is DONE");
        ProcedureDesk desk = single(3, sub(3, 0, 1), add(3, 3, 2), back(3));
        for (int x : NUMBERS) {
            desk.run(x, 3, 4);
            s.due(x + " - 3 + 4", x + 1, desk.result());
        }
        runEachWay((what, three, way, answer, x, y) -> {
            if (way == DONE) {
                s.due(what, x, three.result());
            }
        });
        ProcedureDesk called = Answers.desk(1, 1);
        body(called, 0, call(1, 0, 1));
        body(called, 1, back(0));
        called.run(8, 0, 0);
        s.due("not the result of one called", 0, called.result());
    }

    private static void resultOtherwise() {
        Sentence s = new Sentence(9, "otherwise 0");
        runEachWay((what, desk, way, answer, x, y) -> {
            if (way != DONE) {
                s.due(what + ", not DONE", 0, desk.result());
            }
        });
        ProcedureDesk ended = longDesk();
        body(ended, 0, call(4, 6, 3), back(4));
        body(ended, 3, set(0, 9), back(0));
        s.due("one called ends as number 149, run", DONE, ended.run(0, 0, 0));
        s.due("one called ends as number 149", 9, ended.result());
        ProcedureDesk late = longDesk();
        body(late, 0, call(4, 6, 3), back(4));
        body(late, 3, set(0, 9), out(0), back(0));
        s.due("one called ends as number 150, run", TIRED, late.run(0, 0, 0));
        s.due("one called ends as number 150", 0, late.result());
        s.due("new object", 0, new ProcedureDesk().result());
        ProcedureDesk forgotten = ran(3).get();
        body(forgotten, 0, out(0));
        s.due("a run that is forgotten", 0, forgotten.result());
    }

    private static void stepsCarriedOut() {
        Sentence s = new Sentence(10, "The number of instructions that the last run carried out");
        runEachWay((what, desk, way, answer, x, y) ->
            s.due(what, way == DONE ? 5 : way == TIRED ? 150 : 11, desk.steps()));
        for (int count = 0; count <= 8; count++) {
            ProcedureDesk desk = Answers.desk(0);
            repeat(desk, 0, count, set(0, 1));
            desk.run(0, 0, 0);
            s.due(count + " instructions", count, desk.steps());
        }
        ProcedureDesk forked = single(0, fork(0, 3), out(0), out(0), out(0), fork(0, 8), out(0));
        forked.run(0, 0, 0);
        s.due("not those that a FORK leaves out", 3, forked.steps());
        ProcedureDesk behind = single(0, out(0), back(0), out(0), out(0));
        behind.run(0, 0, 0);
        s.due("BACK too, and not those behind it", 2, behind.steps());
    }

    private static void stepsWithoutRun() {
        Sentence s = new Sentence(10, "0 when there is none");
        s.due("new object", 0, new ProcedureDesk().steps());
        for (int outcome = DONE; outcome <= DEEP; outcome++) {
            ProcedureDesk emitted = cameTo(outcome);
            body(emitted, 0, out(0));
            s.due("emit after " + outcome, 0, emitted.steps());
            ProcedureDesk dropped = cameTo(outcome);
            dropped.drop(0);
            s.due("drop after " + outcome, 0, dropped.steps());
            ProcedureDesk cleared = cameTo(outcome);
            cleared.clear();
            s.due("clear after " + outcome, 0, cleared.steps());
        }
    }

    /** A desk whose run puts out 1, 2, .. and so on: so many from ones called and the rest from procedure 0. */
    private static ProcedureDesk counting(int calls, int rest) {
        ProcedureDesk desk = Answers.desk(1, 2);
        body(desk, 0, set(1, 1));
        repeat(desk, 0, calls, call(0, 0, 1));
        repeat(desk, 0, rest, out(0));
        body(desk, 1, add(0, 0, 1), out(0), add(0, 0, 1), out(0), add(0, 0, 1), out(0), back(0));
        return desk;
    }

    private static void outsCounted() {
        Sentence s = new Sentence(11, "How many numbers the last run put out");
        runEachWay((what, desk, way, answer, x, y) -> s.due(what, way == DONE ? 2 : 1, desk.outs()));
        for (int calls = 0; calls <= 7; calls++) {
            for (int rest = 0; rest <= 7 - calls; rest++) {
                ProcedureDesk desk = counting(calls, rest);
                desk.run(0, 0, 0);
                s.due(calls + " calls and " + rest + " more", 3 * calls + rest, desk.outs());
            }
        }
        ProcedureDesk many = Answers.desk(0, 0, 0);
        repeat(many, 0, 8, call(0, 6, 1));
        repeat(many, 1, 8, call(0, 6, 2));
        repeat(many, 2, 8, out(0));
        many.run(0, 0, 0);
        // 17 CALLs of procedure 2 and the two of 1 among 150.
        s.due("in a run that is TIRED", 150 - 3 - 17, many.outs());
    }

    private static void outsWithoutRun() {
        Sentence s = new Sentence(11, "0 when there is none");
        s.due("new object", 0, new ProcedureDesk().outs());
        for (int outcome = DONE; outcome <= DEEP; outcome++) {
            ProcedureDesk emitted = cameTo(outcome);
            body(emitted, 0, out(0));
            s.due("emit after " + outcome, 0, emitted.outs());
            ProcedureDesk dropped = cameTo(outcome);
            dropped.drop(0);
            s.due("drop after " + outcome, 0, dropped.outs());
            ProcedureDesk cleared = cameTo(outcome);
            cleared.clear();
            s.due("clear after " + outcome, 0, cleared.outs());
        }
    }

    private static void outFromZeroToFifteen() {
        Sentence s = new Sentence(12, "Number k (0 the first) that the last run put out, for k from 0 to 15 and below outs()");
        for (int calls = 0; calls <= 7; calls++) {
            ProcedureDesk desk = counting(calls, 0);
            desk.run(100, 0, 0);
            for (int k = 0; k < 16 && k < 3 * calls; k++) {
                s.due(3 * calls + " put out, out(" + k + ")", 101 + k, desk.out(k));
            }
        }
        ProcedureDesk sixteen = counting(5, 1);
        sixteen.run(LEAST, 0, 0);
        s.due("16 put out, out(15)", LEAST + 15, sixteen.out(15));
        runEachWay((what, desk, way, answer, x, y) -> {
            s.due(what + ", out(0)", x, desk.out(0));
            s.due(what + ", out(1)", way == DONE ? y : 0, desk.out(1));
        });
    }

    private static void outForAnyOther() {
        Sentence s = new Sentence(12, "0 for any other k");
        int[] far = {-1, 16, 17, 18, 20, 21, 31, 32, 149, 150};
        for (int calls = 0; calls <= 7; calls++) {
            ProcedureDesk desk = counting(calls, 0);
            desk.run(100, 0, 0);
            for (int k = 3 * calls; k < 16; k++) {
                s.due(3 * calls + " put out, out(" + k + ")", 0, desk.out(k));
            }
            for (int k : far) {
                s.due(3 * calls + " put out, out(" + k + ")", 0, desk.out(k));
            }
            for (int k : FAR) {
                s.due(3 * calls + " put out, out(" + k + ")", 0, desk.out(k));
            }
        }
        ProcedureDesk shorter = single(1, out(0), fork(0, 8), out(0), out(0));
        shorter.run(5, 0, 0);
        shorter.run(0, 0, 0);
        s.due("what the run before put out", 0, shorter.out(1));
        s.due("what the run before put out", 0, shorter.out(2));
        ProcedureDesk forgotten = ran(3).get();
        forgotten.drop(0);
        for (int k = 0; k < 5; k++) {
            s.due("what a forgotten run put out", 0, forgotten.out(k));
        }
        for (int k = 0; k < 16; k++) {
            s.due("new object, out(" + k + ")", 0, new ProcedureDesk().out(k));
        }
    }
}
