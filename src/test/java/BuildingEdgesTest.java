import java.util.function.Supplier;

/** Promises 1 to 6 and 16, and the term THE PROGRAM: a test of its own for each sentence that names an edge. */
public final class BuildingEdgesTest extends Edges {
    public static void main(String[] args) {
        proceduresInOrder();
        parameterCounts();
        eightInstructions();
        numbersOfAnInstruction();
        newObjectHasNoProcedures();
        newObjectHasNoRun();
        fiveHundredAndTwelveCalls();
        declareAnswersTheNumber();
        declareBad();
        declareFull();
        emitAppends();
        emitTakesNumbersApart();
        emitAnswersItsPosition();
        emitBadProcedure();
        emitBadOperation();
        emitBadAbc();
        emitBadA();
        emitBadBOrC();
        emitBadFork();
        emitBadCall();
        emitCallCountsParameters();
        emitFull();
        emitFirstThatApplies();
        emitChangesOnlyWhenTaken();
        emitForgetsTheRun();
        dropTakesTheLast();
        dropAnswersTheNumberLeft();
        dropBadProcedure();
        dropBadWhenEmpty();
        dropForgetsTheRun();
        clearForgetsProcedures();
        clearForgetsTheRun();
        lengthCounts();
        lengthBad();
        declareKeepsTheRun();
        Answers.end();
    }

    private static void proceduresInOrder() {
        Sentence s = new Sentence(2, "THE PROGRAM has procedures 0 .. 4, declared in this order");
        ProcedureDesk desk = new ProcedureDesk();
        for (int p = 0; p < 5; p++) {
            s.due("before declare, emit to " + p, BAD, desk.emit(p, Answers.SET, 0, 0));
            s.due("declare", p, desk.declare(0));
            s.due("after declare, emit to " + p, 0, desk.emit(p, Answers.SET, 0, 10 + p));
            s.due("after declare, emit to " + p, 1, desk.emit(p, Answers.OUT, 0, 0));
        }
        for (int p = 1; p < 5; p++) {
            body(desk, 0, call(1, 0, p));
        }
        s.due("run", DONE, desk.run(0, 0, 0));
        s.dueRun("each of the five has its own instructions", desk, DONE, 0, 14, 10, 11, 12, 13, 14);
    }

    private static void parameterCounts() {
        Sentence s = new Sentence(2, "each with 0 to 3 parameters");
        for (int p = 0; p < 5; p++) {
            for (int count = 0; count <= 3; count++) {
                ProcedureDesk desk = new ProcedureDesk();
                for (int before = 0; before < p; before++) {
                    desk.declare(3 - count);
                }
                s.due("declare(" + count + ")", p, desk.declare(count));
                body(desk, p, out(0), out(1), out(2), out(3));
                String what = "procedure " + p + " with " + count;
                s.due(what + ", all registers live", (1 << count) - 1, desk.parametersThatMatter(p));
                s.due(what + ", CALL that fits", 4, desk.emit(p, Answers.CALL, Answers.abc(0, 6 - count, 0), p));
                s.due(what + ", CALL that does not", BAD, desk.emit(p, Answers.CALL, Answers.abc(0, 7 - count, 0), p));
            }
        }
    }

    private static void eightInstructions() {
        Sentence s = new Sentence(3, "at most eight instructions at positions 0, 1, ..");
        ProcedureDesk desk = Answers.desk(0, 0, 0, 0, 0);
        for (int p = 4; p >= 1; p--) {
            for (int k = 0; k < 8; k++) {
                int op = k % 2 == 0 ? Answers.SET : Answers.OUT;
                s.due("position in " + p, k, desk.emit(p, op, 0, 10 * p + k));
            }
            s.due("ninth in " + p, FULL, desk.emit(p, Answers.SET, 0, 99));
        }
        body(desk, 0, call(5, 0, 1), call(5, 0, 2), call(5, 0, 3), call(5, 0, 4), set(1, 7), add(1, 1, 1), out(1), back(1));
        s.due("ninth in 0", FULL, desk.emit(0, Answers.SET, 1, 99));
        s.due("run of all forty", DONE, desk.run(0, 0, 0));
        s.dueRun("run of all forty", desk, DONE, 14, 40,
            10, 12, 14, 16, 20, 22, 24, 26, 30, 32, 34, 36, 40, 42, 44, 46, 14);
    }

    private static void numbersOfAnInstruction() {
        Sentence s = new Sentence(3, "three numbers a, b, c (0 .. 7 each) and a number n (an int)");
        int[] withoutBAndC = {Answers.SET, Answers.OUT, Answers.BACK};
        int[] ints = {LEAST, LEAST + 1, -1, 0, 1, 8, 9, GREATEST - 1, GREATEST};
        for (int n : ints) {
            for (int op : withoutBAndC) {
                for (int b = 0; b < 8; b++) {
                    for (int c = 0; c < 8; c++) {
                        int number = Answers.abc(5, b, c);
                        s.due("op " + op + ", abc " + number + ", n " + n, 0, Answers.desk(0).emit(0, op, number, n));
                    }
                }
            }
            for (int op = Answers.ADD; op <= Answers.LESS; op++) {
                s.due("op " + op + ", n " + n, 0, Answers.desk(0).emit(0, op, Answers.abc(5, 4, 3), n));
            }
            ProcedureDesk desk = single(0, set(3, n), back(3));
            desk.run(0, 0, 0);
            s.due("SET of " + n, n, desk.result());
        }
        for (int c = 0; c < 8; c++) {
            s.due("FORK, c " + c, 0, Answers.desk(0).emit(0, Answers.FORK, Answers.abc(0, 7, c), 1));
            s.due("CALL, c " + c, 0, Answers.desk(0).emit(0, Answers.CALL, Answers.abc(0, 6, c), 0));
        }
    }

    private static void newObjectHasNoProcedures() {
        Sentence s = new Sentence(1, "No procedures");
        for (ProcedureDesk other : new ProcedureDesk[] {built(5), ran(3).get()}) {
            ProcedureDesk desk = new ProcedureDesk();
            for (int p = 0; p < 5; p++) {
                s.due("length(" + p + ")", BAD, desk.length(p));
                s.due("drop(" + p + ")", BAD, desk.drop(p));
                s.due("emit(" + p + ")", BAD, desk.emit(p, Answers.SET, 0, 0));
                s.due("parametersThatMatter(" + p + ")", 0, desk.parametersThatMatter(p));
                s.due("resultMatters(" + p + ")", false, desk.resultMatters(p));
                s.due("instructionsThatMatter(" + p + ")", 0, desk.instructionsThatMatter(p));
            }
            s.due("run", BAD, desk.run(5, 3, 0));
            s.due("declare", 0, desk.declare(0));
            s.due("length of the first one declared", 0, desk.length(0));
            s.due("no second one", BAD, desk.length(1));
            s.due("the other object keeps its own", 4, other.length(0));
        }
    }

    private static void newObjectHasNoRun() {
        Sentence s = new Sentence(1, "no run");
        ProcedureDesk other = ran(3).get();
        s.dueNoRun("new object beside one that ran", new ProcedureDesk());
        dueThatRun(s, "the object that ran", other);
    }

    private static void fiveHundredAndTwelveCalls() {
        Sentence s = new Sentence(1, "An object is used for at most 512 calls after it has been made");
        ProcedureDesk running = Answers.desk(1);
        running.emit(0, Answers.OUT, 0, 0);
        for (int i = 0; i < 510 - 3; i++) {
            s.due("run " + i, DONE, running.run(i, 0, 0));
        }
        s.due("outs, call 510", 1, running.outs());
        s.due("steps, call 511", 1, running.steps());
        s.due("out, call 512", 506, running.out(0));
        ProcedureDesk building = Answers.desk(1);
        for (int i = 0; i < 255; i++) {
            s.due("emit " + i, 0, building.emit(0, Answers.SET, 0, i));
            s.due("drop " + i, 0, building.drop(0));
        }
        s.due("length, call 512", 0, building.length(0));
        ProcedureDesk clearing = new ProcedureDesk();
        for (int i = 0; i < 256; i++) {
            clearing.clear();
            s.due("declare " + i, 0, clearing.declare(i % 4));
        }
    }

    private static void declareAnswersTheNumber() {
        Sentence s = new Sentence(2, "Declares the next procedure and answers its number");
        ProcedureDesk desk = new ProcedureDesk();
        int[] counts = {3, 0, 2, 1, 3};
        for (int p = 0; p < 5; p++) {
            s.due("declare(" + counts[p] + ")", p, desk.declare(counts[p]));
            s.due("it has no instructions", 0, desk.length(p));
            s.due("the next one is not declared", BAD, desk.length(p + 1));
        }
        desk.clear();
        s.due("after clear the first is next", 0, desk.declare(1));
        ProcedureDesk used = built(5);
        used.clear();
        for (int p = 0; p < 5; p++) {
            s.due("declared where one was forgotten", p, used.declare(3));
            s.due("it has none of the forgotten instructions", 0, used.length(p));
            s.due("and none that matter", 0, used.instructionsThatMatter(p));
        }
    }

    private static void declareBad() {
        Sentence s = new Sentence(2, "BAD when parameters is not 0 .. 3");
        int[] near = {-1, 4, 5, 8};
        for (int parameters : near) {
            s.due("on a new object, declare(" + parameters + ")", BAD, new ProcedureDesk().declare(parameters));
            for (int procedures = 3; procedures <= 5; procedures++) {
                s.refused("declare(" + parameters + ") behind " + procedures, BAD, ran(procedures),
                    desk -> desk.declare(parameters));
            }
        }
        for (int parameters : FAR) {
            s.refused("declare(" + parameters + ")", BAD, ran(3), desk -> desk.declare(parameters));
            s.refused("declare(" + parameters + ") behind five", BAD, ranFull(4), desk -> desk.declare(parameters));
        }
        ProcedureDesk desk = new ProcedureDesk();
        desk.declare(-1);
        desk.declare(4);
        s.due("refused ones take no number", 0, desk.declare(0));
    }

    private static void declareFull() {
        Sentence s = new Sentence(2, "then FULL when five are declared");
        ProcedureDesk desk = Answers.desk(0, 0, 0, 0);
        s.due("four are declared, then BAD alone", BAD, desk.declare(4));
        s.due("four are declared, so one more fits", 4, desk.declare(0));
        for (int parameters = 0; parameters <= 3; parameters++) {
            int count = parameters;
            s.refused("declare(" + count + ") behind five", FULL, ran(5), full -> full.declare(count));
            s.refused("declare(" + count + ") behind five with bodies", FULL, ranFull(4), full -> full.declare(count));
        }
        s.due("BAD comes first", BAD, desk.declare(-1));
        s.due("BAD comes first", BAD, desk.declare(4));
        s.due("FULL again", FULL, desk.declare(3));
        desk.clear();
        s.due("not full after clear", 0, desk.declare(0));
    }

    private static void emitAppends() {
        Sentence s = new Sentence(3, "Appends an instruction to procedure p");
        ProcedureDesk desk = Answers.desk(0, 0);
        body(desk, 0, set(0, 1), out(0), set(0, 2));
        body(desk, 1, set(0, 8));
        body(desk, 0, out(0), back(0));
        s.due("run", DONE, desk.run(0, 0, 0));
        s.dueRun("behind the ones before, in the procedure named", desk, DONE, 2, 5, 1, 2);
        s.due("the other procedure", 1, desk.length(1));
    }

    private static void emitTakesNumbersApart() {
        Sentence s = new Sentence(3, "abc is a + 8 * b + 64 * c");
        for (int a = 0; a < 6; a++) {
            for (int b = 0; b < 6; b++) {
                for (int c = 0; c < 6; c++) {
                    ProcedureDesk desk = single(3, add(3, 0, 0), add(4, 1, 1), add(5, 2, 2));
                    s.due("emit", 3, desk.emit(0, Answers.SUB, a + 8 * b + 64 * c, 0));
                    body(desk, 0, out(a), back(b));
                    int[] held = {1, 20, 300, 2, 40, 600};
                    int want = held[b] - held[c];
                    s.due("run", DONE, desk.run(1, 20, 300));
                    s.dueRun("SUB " + a + " " + b + " " + c, desk, DONE, a == b ? want : held[b], 6, want);
                }
            }
        }
    }

    private static void emitAnswersItsPosition() {
        Sentence s = new Sentence(3, "Answers its position");
        ProcedureDesk desk = Answers.desk(0, 0, 0, 0, 0);
        for (int k = 0; k < 8; k++) {
            for (int p = 0; p < 5; p++) {
                s.due("in " + p, k, desk.emit(p, Answers.OUT, p, 0));
            }
        }
        desk.drop(3);
        desk.drop(3);
        s.due("where one was dropped", 6, desk.emit(3, Answers.OUT, 0, 0));
        s.due("behind it", 7, desk.emit(3, Answers.OUT, 0, 0));
    }

    private static void emitBadProcedure() {
        Sentence s = new Sentence(3, "BAD when p is not declared");
        for (int procedures = 3; procedures <= 5; procedures++) {
            for (int p : new int[] {-1, procedures, 5, 6, 8}) {
                s.refused("emit(" + p + ") with " + procedures, BAD, ran(procedures),
                    desk -> desk.emit(p, Answers.SET, 0, 1));
            }
        }
        for (int p : FAR) {
            s.refused("emit(" + p + ")", BAD, ran(3), desk -> desk.emit(p, Answers.SET, 0, 1));
        }
        ProcedureDesk desk = built(3);
        desk.clear();
        s.due("forgotten by clear", BAD, desk.emit(0, Answers.SET, 0, 1));
        desk.declare(0);
        s.due("declared again", 0, desk.emit(0, Answers.SET, 0, 1));
        s.due("not declared again", BAD, desk.emit(1, Answers.SET, 0, 1));
    }

    private static void emitBadOperation() {
        Sentence s = new Sentence(3, "op is not 0 .. 7");
        for (int op : new int[] {-1, 8, 9, 15, 16}) {
            s.refused("op " + op, BAD, ran(3), desk -> desk.emit(0, op, 0, 5));
        }
        for (int op : FAR) {
            s.refused("op " + op, BAD, ran(3), desk -> desk.emit(0, op, 0, 5));
        }
        for (int op = 0; op < 8; op++) {
            s.due("op " + op, 0, Answers.desk(0, 0).emit(0, op, 0, 1));
        }
    }

    private static void emitBadAbc() {
        Sentence s = new Sentence(3, "abc is not 0 .. 511");
        for (int op = 0; op < 8; op++) {
            int any = op;
            for (int number : new int[] {-1, 512, 513, 1024, -512}) {
                s.due("op " + op + ", abc " + number, BAD, Answers.desk(0, 0).emit(0, op, number, 1));
            }
            for (int number : FAR) {
                s.due("op " + op + ", abc " + number, BAD, Answers.desk(0, 0).emit(0, op, number, 1));
            }
            s.refused("op " + op + ", abc -1", BAD, ran(4), desk -> desk.emit(3, any, -1, 1));
            s.refused("op " + op + ", abc 512", BAD, ran(4), desk -> desk.emit(3, any, 512, 1));
        }
        s.due("abc 0", 0, Answers.desk(0).emit(0, Answers.ADD, 0, 0));
        s.due("abc 509, the greatest whose a is a register", 0, Answers.desk(0).emit(0, Answers.OUT, 509, 0));
        s.due("abc 511, whose a is no register", BAD, Answers.desk(0).emit(0, Answers.OUT, 511, 0));
    }

    private static void emitBadA() {
        Sentence s = new Sentence(3, "BAD when a is above 5");
        for (int op = 0; op < 8; op++) {
            int any = op;
            for (int number = 0; number < 8; number++) {
                String what = "op " + op + ", b and c " + number + ", a ";
                s.due(what + 6, BAD, Answers.desk(0, 0).emit(0, op, Answers.abc(6, number, number), 1));
                s.due(what + 7, BAD, Answers.desk(0, 0).emit(0, op, Answers.abc(7, number, number), 1));
                if (number <= 5) {
                    s.due(what + 5, 0, Answers.desk(0, 0).emit(0, op, Answers.abc(5, number, number), 1));
                }
            }
            s.refused("op " + op + ", a 6", BAD, ran(4), desk -> desk.emit(3, any, 6, 1));
            s.refused("op " + op + ", a 7", BAD, ran(4), desk -> desk.emit(3, any, 7, 1));
        }
    }

    private static void emitBadBOrC() {
        Sentence s = new Sentence(3, "BAD for ADD, SUB and LESS when b or c is above 5");
        int[] computing = {Answers.ADD, Answers.SUB, Answers.LESS};
        for (int op : computing) {
            for (int high = 6; high <= 7; high++) {
                int number = high;
                s.refused("op " + op + ", b " + high, BAD, ran(4), desk -> desk.emit(3, op, Answers.abc(0, number, 0), 1));
                s.refused("op " + op + ", c " + high, BAD, ran(4), desk -> desk.emit(3, op, Answers.abc(0, 0, number), 1));
                s.due("op " + op + ", b and c", BAD, Answers.desk(0).emit(0, op, Answers.abc(5, high, high), 0));
                s.due("op " + op + ", b 5, c", BAD, Answers.desk(0).emit(0, op, Answers.abc(5, 5, high), 0));
                s.due("op " + op + ", b, c 5", BAD, Answers.desk(0).emit(0, op, Answers.abc(5, high, 5), 0));
            }
            s.due("op " + op + ", b and c 5", 0, Answers.desk(0).emit(0, op, Answers.abc(5, 5, 5), 0));
        }
        int[] others = {Answers.SET, Answers.FORK, Answers.OUT, Answers.BACK};
        for (int op : others) {
            for (int high = 6; high <= 7; high++) {
                s.due("op " + op + ", which has no b and c", 0,
                    Answers.desk(0).emit(0, op, Answers.abc(5, high, high), 1));
            }
        }
        s.due("CALL, which has no c", 0, Answers.desk(0).emit(0, Answers.CALL, Answers.abc(5, 6, 7), 0));
    }

    private static void emitBadFork() {
        Sentence s = new Sentence(3, "BAD for FORK unless n is from its own position + 1 to 8");
        for (int position = 0; position < 8; position++) {
            int before = position;
            Supplier<ProcedureDesk> ran = () -> {
                ProcedureDesk desk = ran(3).get();
                while (desk.drop(2) > 0) {
                    continue;
                }
                repeat(desk, 2, before, out(0));
                desk.run(5, 3, 0);
                return desk;
            };
            for (int n = -1; n <= 10; n++) {
                int target = n;
                String what = "FORK at " + position + " to " + n;
                if (n > position && n <= 8) {
                    s.due(what, position, ran.get().emit(2, Answers.FORK, 0, n));
                } else {
                    s.refused(what, BAD, ran, desk -> desk.emit(2, Answers.FORK, 0, target));
                }
            }
            for (int n : FAR) {
                s.due("FORK at " + position + " to " + n, BAD, ran.get().emit(2, Answers.FORK, 0, n));
            }
        }
        for (int op = 0; op < 8; op++) {
            if (op != Answers.FORK && op != Answers.CALL) {
                for (int n : FAR) {
                    s.due("op " + op + " with n " + n, 0, Answers.desk(0).emit(0, op, 0, n));
                }
            }
        }
    }

    private static void emitBadCall() {
        Sentence s = new Sentence(3, "BAD for CALL unless n is a declared procedure");
        for (int procedures = 3; procedures <= 5; procedures++) {
            for (int n = 0; n < procedures; n++) {
                s.due("CALL of " + n + " of " + procedures, 2, built(procedures).emit(2, Answers.CALL, 0, n));
            }
            for (int n : new int[] {-1, procedures, 5, 6, 8}) {
                s.refused("CALL of " + n + " of " + procedures, BAD, ran(procedures),
                    desk -> desk.emit(2, Answers.CALL, 0, n));
            }
        }
        for (int n : FAR) {
            s.refused("CALL of " + n, BAD, ran(3), desk -> desk.emit(2, Answers.CALL, 0, n));
        }
        ProcedureDesk desk = Answers.desk(0);
        s.due("not declared yet", BAD, desk.emit(0, Answers.CALL, 0, 1));
        desk.declare(0);
        s.due("declared now", 0, desk.emit(0, Answers.CALL, 0, 1));
        desk.clear();
        desk.declare(0);
        s.due("forgotten by clear", BAD, desk.emit(0, Answers.CALL, 0, 1));
    }

    private static void emitCallCountsParameters() {
        Sentence s = new Sentence(3, "b + its number of parameters is at most 6");
        for (int own = 0; own <= 3; own++) {
            for (int count = 0; count <= 3; count++) {
                int[] counts = {own, count};
                Supplier<ProcedureDesk> ran = () -> {
                    ProcedureDesk desk = Answers.desk(counts);
                    body(desk, 0, out(0));
                    desk.run(4, 0, 0);
                    return desk;
                };
                for (int b = 0; b < 8; b++) {
                    int first = b;
                    String what = "CALL with b " + b + " of one with " + count + " by one with " + own;
                    if (b + count <= 6) {
                        s.due(what, 1, ran.get().emit(0, Answers.CALL, Answers.abc(5, b, 7), 1));
                    } else {
                        s.refused(what, BAD, ran, desk -> desk.emit(0, Answers.CALL, Answers.abc(5, first, 7), 1));
                    }
                }
            }
        }
    }

    /** A desk of five that ran, where p is full and each of the others has something to tell. */
    private static Supplier<ProcedureDesk> ranFull(int p) {
        return () -> {
            ProcedureDesk desk = Answers.desk(1, 0, 0, 0, 0);
            body(desk, 0, call(1, 1, 1), call(2, 1, 2), call(3, 1, 3), call(4, 1, 4), add(5, 1, 2), out(5));
            for (int q = 1; q < 5; q++) {
                body(desk, q, set(0, 10 * q), out(0), back(0));
            }
            repeat(desk, p, 8 - desk.length(p), out(0));
            Answers.due(7, "run", DONE, desk.run(1, 0, 0));
            return desk;
        };
    }

    private static void emitFull() {
        Sentence s = new Sentence(3, "FULL when p has eight instructions");
        for (int p = 0; p < 5; p++) {
            int full = p;
            for (int op = 0; op < 8; op++) {
                int any = op;
                if (op != Answers.FORK) {
                    s.refused("ninth in " + p + ", op " + op, FULL, ranFull(p), desk -> desk.emit(full, any, 5, 2));
                }
            }
            ProcedureDesk desk = ranFull(p).get();
            for (int q = 0; q < 5; q++) {
                int want = q == p ? FULL : q == 0 ? 6 : 3;
                s.due("procedure " + p + " full, emit to " + q, want, desk.emit(q, Answers.OUT, 0, 0));
            }
            desk.drop(p);
            s.due("eighth again", 7, desk.emit(p, Answers.OUT, 0, 0));
            s.due("full again", FULL, desk.emit(p, Answers.OUT, 0, 0));
        }
    }

    private static void emitFirstThatApplies() {
        Sentence s = new Sentence(3, "by the first that applies");
        Supplier<ProcedureDesk> full = ranFull(2);
        s.refused("op before FULL", BAD, full, desk -> desk.emit(2, 8, 0, 1));
        s.refused("op below before FULL", BAD, full, desk -> desk.emit(2, -1, 0, 1));
        s.refused("abc before FULL", BAD, full, desk -> desk.emit(2, Answers.SET, 512, 1));
        s.refused("abc below before FULL", BAD, full, desk -> desk.emit(2, Answers.SET, -1, 1));
        for (int op = 0; op < 8; op++) {
            int any = op;
            s.refused("a before FULL, op " + op, BAD, full, desk -> desk.emit(2, any, 6, 1));
        }
        for (int op = Answers.ADD; op <= Answers.LESS; op++) {
            int any = op;
            s.refused("b before FULL, op " + op, BAD, full, desk -> desk.emit(2, any, Answers.abc(0, 6, 0), 1));
            s.refused("c before FULL, op " + op, BAD, full, desk -> desk.emit(2, any, Answers.abc(0, 0, 6), 1));
        }
        for (int n = 0; n <= 10; n++) {
            int target = n;
            s.refused("FORK's n before FULL", BAD, full, desk -> desk.emit(2, Answers.FORK, 0, target));
        }
        s.refused("CALL's n before FULL", BAD, full, desk -> desk.emit(2, Answers.CALL, 0, 5));
        s.refused("CALL's n below before FULL", BAD, full, desk -> desk.emit(2, Answers.CALL, 0, -1));
        s.refused("CALL's b before FULL", BAD, full, desk -> desk.emit(2, Answers.CALL, Answers.abc(0, 7, 0), 1));
        s.refused("CALL's b and parameters before FULL", BAD, full,
            desk -> desk.emit(2, Answers.CALL, Answers.abc(0, 6, 0), 0));
    }

    private static void emitChangesOnlyWhenTaken() {
        Sentence s = new Sentence(3, "Only an answer of 0 or more changes anything");
        ProcedureDesk desk = ran(3).get();
        desk.emit(3, Answers.SET, 0, 1);
        desk.emit(0, 8, 0, 1);
        desk.emit(0, Answers.SET, 512, 1);
        desk.emit(0, Answers.SET, 6, 1);
        desk.emit(0, Answers.ADD, Answers.abc(0, 6, 0), 1);
        desk.emit(0, Answers.FORK, 0, 4);
        desk.emit(0, Answers.CALL, 0, 3);
        desk.emit(0, Answers.CALL, Answers.abc(0, 5, 0), 1);
        dueThatRun(s, "after seven BAD emits", desk);
        desk.emit(1, Answers.SET, 0, 1);
        dueThatRun(s, "after a FULL emit", desk);
        s.due("length(0)", 4, desk.length(0));
        s.due("length(1)", 8, desk.length(1));
        s.due("the next position", 4, desk.emit(0, Answers.OUT, 0, 0));
    }

    private static void emitForgetsTheRun() {
        Sentence s = new Sentence(3, "then also the last run is forgotten");
        for (int op = 0; op < 8; op++) {
            ProcedureDesk desk = ran(4).get();
            s.due("emit, op " + op, 0, desk.emit(3, op, 0, 1));
            s.dueNoRun("after an emit to a procedure that nobody calls, op " + op, desk);
        }
        for (int outcome = DONE; outcome <= DEEP; outcome++) {
            ProcedureDesk desk = cameTo(outcome);
            s.due("emit", 5, desk.emit(0, Answers.SET, 0, 1));
            s.dueNoRun("after an emit when the run came to " + outcome, desk);
        }
    }

    private static void dropTakesTheLast() {
        Sentence s = new Sentence(4, "Takes the last instruction of procedure p away");
        ProcedureDesk desk = Answers.desk(0, 0);
        body(desk, 0, set(0, 1), out(0), set(0, 2), out(0), call(1, 0, 1), out(1), set(0, 3), back(0));
        body(desk, 1, set(0, 9), back(0));
        int[] steps = {9, 8, 7, 4, 3, 2, 1, 0};
        int[][] outs = {{1, 2, 9}, {1, 2, 9}, {1, 2}, {1, 2}, {1}, {1}, {}, {}};
        for (int left = 7; left >= 0; left--) {
            desk.drop(0);
            s.due("run", DONE, desk.run(0, 0, 0));
            s.dueRun(left + " left", desk, DONE, 0, steps[7 - left], outs[7 - left]);
            s.due("the other procedure", 2, desk.length(1));
        }
        body(desk, 0, back(4), back(5));
        desk.drop(0);
        body(desk, 0, set(4, 1));
        s.due("in place of the one taken away there is another", 1, desk.instructionsThatMatter(0));
    }

    private static void dropAnswersTheNumberLeft() {
        Sentence s = new Sentence(4, "answers the number that are left");
        ProcedureDesk desk = Answers.desk(0, 0, 0, 0, 0);
        for (int p = 0; p < 5; p++) {
            repeat(desk, p, 8, out(0));
        }
        for (int left = 7; left >= 0; left--) {
            for (int p = 0; p < 5; p++) {
                s.due("drop(" + p + ")", left, desk.drop(p));
                s.due("length(" + p + ")", left, desk.length(p));
            }
        }
    }

    private static void dropBadProcedure() {
        Sentence s = new Sentence(4, "BAD, changing nothing, when p is not declared");
        s.due("on a new object", BAD, new ProcedureDesk().drop(0));
        for (int procedures = 3; procedures <= 5; procedures++) {
            for (int p : new int[] {-1, procedures, 5, 6, 8}) {
                s.refused("drop(" + p + ") with " + procedures, BAD, ran(procedures), desk -> desk.drop(p));
            }
        }
        for (int p : FAR) {
            s.refused("drop(" + p + ")", BAD, ran(3), desk -> desk.drop(p));
        }
        ProcedureDesk desk = built(3);
        desk.clear();
        s.due("forgotten by clear", BAD, desk.drop(0));
        desk.declare(0);
        s.due("declared again, not the second", BAD, desk.drop(1));
    }

    private static void dropBadWhenEmpty() {
        Sentence s = new Sentence(4, "BAD, changing nothing, when p is not declared or has none");
        s.due("just declared", BAD, Answers.desk(0).drop(0));
        s.refused("drop(3), empty", BAD, ran(4), desk -> desk.drop(3));
        s.refused("drop(4), empty", BAD, ran(5), desk -> desk.drop(4));
        Supplier<ProcedureDesk> emptied = () -> {
            ProcedureDesk desk = built(3);
            desk.drop(2);
            desk.drop(2);
            desk.run(5, 3, 0);
            return desk;
        };
        s.refused("drop(2), emptied", BAD, emptied, desk -> desk.drop(2));
        ProcedureDesk desk = Answers.desk(0);
        desk.drop(0);
        s.due("the first position is next", 0, desk.emit(0, Answers.OUT, 0, 0));
        s.due("one to drop", 0, desk.drop(0));
    }

    private static void dropForgetsTheRun() {
        Sentence s = new Sentence(4, "The last run is forgotten.");
        for (int p = 0; p < 3; p++) {
            ProcedureDesk desk = ran(3).get();
            desk.drop(p);
            s.dueNoRun("after drop(" + p + ")", desk);
        }
        ProcedureDesk other = built(4);
        body(other, 3, out(0));
        other.run(5, 3, 0);
        other.drop(3);
        s.dueNoRun("after a drop in a procedure that nobody calls", other);
        for (int outcome = DONE; outcome <= DEEP; outcome++) {
            ProcedureDesk desk = cameTo(outcome);
            s.due("drop", 4, desk.drop(0));
            s.dueNoRun("after a drop when the run came to " + outcome, desk);
        }
    }

    private static void clearForgetsProcedures() {
        Sentence s = new Sentence(5, "Forgets all procedures");
        for (int procedures = 3; procedures <= 5; procedures++) {
            ProcedureDesk desk = built(procedures);
            desk.clear();
            for (int p = 0; p < 5; p++) {
                s.due("length(" + p + ")", BAD, desk.length(p));
                s.due("emit(" + p + ")", BAD, desk.emit(p, Answers.SET, 0, 0));
                s.due("drop(" + p + ")", BAD, desk.drop(p));
                s.due("parametersThatMatter(" + p + ")", 0, desk.parametersThatMatter(p));
                s.due("resultMatters(" + p + ")", false, desk.resultMatters(p));
                s.due("instructionsThatMatter(" + p + ")", 0, desk.instructionsThatMatter(p));
            }
            s.due("run", BAD, desk.run(5, 3, 0));
            s.due("declare", 0, desk.declare(0));
            s.due("its instructions", 0, desk.length(0));
            s.due("run of nothing", DONE, desk.run(5, 3, 0));
            s.dueRun("run of nothing", desk, DONE, 0, 0);
            body(desk, 0, out(0));
            desk.run(5, 3, 0);
            s.dueRun("it has its own number of parameters", desk, DONE, 0, 1, 0);
        }
        ProcedureDesk empty = new ProcedureDesk();
        empty.clear();
        empty.clear();
        for (int p = 0; p < 5; p++) {
            s.due("where none was declared", p, empty.declare(0));
        }
    }

    private static void clearForgetsTheRun() {
        Sentence s = new Sentence(5, "Forgets all procedures and the last run.");
        ProcedureDesk ran = ran(3).get();
        ran.clear();
        s.dueNoRun("after clear", ran);
        ran.declare(0);
        s.dueNoRun("after clear and declare", ran);
        for (int outcome = DONE; outcome <= DEEP; outcome++) {
            ProcedureDesk desk = cameTo(outcome);
            desk.clear();
            s.dueNoRun("after clear when the run came to " + outcome, desk);
        }
    }

    private static void lengthCounts() {
        Sentence s = new Sentence(6, "The number of instructions of procedure p");
        ProcedureDesk desk = Answers.desk(3, 0, 3, 0, 3);
        for (int k = 0; k <= 8; k++) {
            for (int p = 0; p < 5; p++) {
                // Procedures 0, 2 and 4 grow, and 1 and 3 stay empty.
                int want = p % 2 == 0 ? k : 0;
                s.due("length(" + p + ")", want, desk.length(p));
                if (p % 2 == 0) {
                    desk.emit(p, Answers.SET, 0, 0);
                }
            }
        }
        s.due("full", 8, desk.length(4));
        desk.drop(4);
        s.due("after drop", 7, desk.length(4));
        desk.run(0, 0, 0);
        s.due("after run", 7, desk.length(4));
    }

    private static void lengthBad() {
        Sentence s = new Sentence(6, "BAD when it is not declared");
        for (int procedures = 3; procedures <= 5; procedures++) {
            for (int p : new int[] {-1, procedures, 5, 6, 8}) {
                s.refused("length(" + p + ") of " + procedures, BAD, ran(procedures), desk -> desk.length(p));
            }
        }
        for (int p : FAR) {
            s.refused("length(" + p + ")", BAD, ran(3), desk -> desk.length(p));
        }
        s.due("new object", BAD, new ProcedureDesk().length(0));
    }

    private static void declareKeepsTheRun() {
        Sentence s = new Sentence(16, "declare does not forget the last run.");
        ProcedureDesk ran = ran(3).get();
        s.due("declare", 3, ran.declare(3));
        dueThatRun(s, "after declare", ran);
        s.due("declare", 4, ran.declare(0));
        dueThatRun(s, "after the fifth declare", ran);
        s.due("declare", FULL, ran.declare(0));
        dueThatRun(s, "after a FULL declare", ran);
        s.due("declare", BAD, ran.declare(4));
        dueThatRun(s, "after a BAD declare", ran);
        for (int outcome = DONE; outcome <= DEEP; outcome++) {
            ProcedureDesk desk = cameTo(outcome);
            s.due("declare", 3, desk.declare(1));
            dueCameTo(s, "after declare", desk, outcome);
        }
    }
}
