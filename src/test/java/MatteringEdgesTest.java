import java.util.ArrayList;
import java.util.Arrays;
import java.util.List;

/** Promises 13 to 15, and the term WHAT MATTERS: a test of its own for each sentence that names an edge. */
public final class MatteringEdgesTest extends Edges {
    // Some of them are 0 to 4 again once they have counted as a shift.
    private static final int[] NEVER_DECLARED = {-1, 5, 6, 31, 32, 33, 36, 64};

    public static void main(String[] args) {
        leastOfResults();
        leastOfParameters();
        leastOfOne();
        longChainOfParameters();
        longChainOfResults();
        longChainOfAll();
        resultOfTheFirst();
        resultOfOneCalled();
        resultLiveByFork();
        resultThatIsNotLive();
        liveByRead();
        liveThroughWhatDoesNotSet();
        notLiveThroughWhatSets();
        liveAfterFork();
        liveAfterForkBehindTheLast();
        liveAfterBack();
        liveAfterTheOthers();
        liveAfterTheEighth();
        computingReads();
        computingDoesNotRead();
        forkAndOutRead();
        backReads();
        callReads();
        callReadsParametersAlone();
        parametersLiveAtFirst();
        forkCallOutMatter();
        backMatters();
        settingMatters();
        parametersAsBits();
        parametersNotDeclared();
        resultTold();
        resultNotDeclared();
        instructionsAsBits();
        instructionsNotDeclared();
        followsEachChange();
        Answers.end();
    }

    private static void leastOfResults() {
        Sentence s = new Sentence(14, "WHAT MATTERS is the least collection of facts");
        ProcedureDesk desk = Answers.desk(0, 0, 0);
        body(desk, 0, call(5, 0, 1));
        body(desk, 1, call(1, 0, 2), back(1));
        body(desk, 2, call(1, 0, 1), back(1));
        s.dueMatters("two that need each other's result alone", desk, 1, 0, false, 3);
        s.dueMatters("two that need each other's result alone", desk, 2, 0, false, 3);
        body(desk, 0, out(5));
        s.dueMatters("one of two is needed", desk, 1, 0, true, 3);
        s.dueMatters("the other of two", desk, 2, 0, true, 3);
    }

    private static void leastOfParameters() {
        Sentence s = new Sentence(13, "WHAT MATTERS is the least collection of facts");
        ProcedureDesk desk = Answers.desk(1, 1, 1);
        body(desk, 0, call(5, 0, 1));
        body(desk, 1, add(1, 0, 0), call(2, 1, 2));
        body(desk, 2, sub(1, 0, 0), call(2, 1, 1));
        for (int p = 0; p < 3; p++) {
            s.dueMatters("handed in a ring and never read", desk, p, 0, p == 0, p == 0 ? 1 : 2);
        }
        body(desk, 2, out(0));
        for (int p = 0; p < 3; p++) {
            s.dueMatters("read in the ring", desk, p, 1, p == 0, p == 0 ? 1 : p == 1 ? 3 : 7);
        }
    }

    private static void leastOfOne() {
        Sentence s = new Sentence(15, "WHAT MATTERS is the least collection of facts");
        ProcedureDesk desk = Answers.desk(3, 1);
        body(desk, 0, set(3, 7), add(4, 0, 1), sub(5, 1, 2), call(0, 3, 0));
        s.dueMatters("handed to itself and never read", desk, 0, 0, true, 8);
        body(desk, 1, call(1, 0, 1), add(1, 1, 1), back(1));
        s.dueMatters("a result that itself needs alone", desk, 1, 0, false, 5);
        body(desk, 0, out(2));
        // The third needs the second, where it is handed on, and the second the first.
        s.dueMatters("the third is read", desk, 0, 7, true, 31);
    }

    /** All the orders of the five procedures that begin with 0. */
    private static List<int[]> orders() {
        List<int[]> orders = new ArrayList<>();
        for (int number = 0; number < 625; number++) {
            int[] order = {0, number / 125, number / 25 % 5, number / 5 % 5, number % 5};
            if (Arrays.stream(order).distinct().count() == 5) {
                orders.add(order);
            }
        }
        return orders;
    }

    private static void longChainOfParameters() {
        Sentence s = new Sentence(13, "such that");
        for (int[] order : orders()) {
            ProcedureDesk desk = Answers.desk(1, 1, 1, 1, 1);
            for (int at = 0; at < 5; at++) {
                body(desk, order[at], add(1, 0, 0), add(2, 1, 1), add(3, 2, 2), add(4, 3, 3), add(5, 4, 4));
                if (at < 4) {
                    body(desk, order[at], call(0, 5, order[at + 1]));
                }
            }
            String what = "handed on " + Arrays.toString(order);
            for (int at = 0; at < 5; at++) {
                s.dueMatters(what + ", not read", desk, order[at], 0, at == 0, at < 4 ? 32 : 0);
            }
            body(desk, order[4], out(5));
            for (int at = 0; at < 5; at++) {
                s.dueMatters(what + ", read at last", desk, order[at], 1, at == 0, 63);
            }
        }
    }

    private static void longChainOfResults() {
        Sentence s = new Sentence(14, "such that");
        for (int[] order : orders()) {
            ProcedureDesk desk = Answers.desk(0, 0, 0, 0, 0);
            for (int at = 0; at < 5; at++) {
                body(desk, order[at], at < 4 ? call(0, 0, order[at + 1]) : set(0, 1));
                body(desk, order[at], add(1, 0, 0), add(2, 1, 1), add(3, 2, 2), add(4, 3, 3), add(5, 4, 4), back(5));
            }
            String what = "handed back " + Arrays.toString(order);
            for (int at = 0; at < 5; at++) {
                s.dueMatters(what + ", needed", desk, order[at], 0, true, 127);
            }
            desk.drop(0);
            for (int at = 0; at < 5; at++) {
                int instructions = at == 0 ? 1 : at < 4 ? 65 : 64;
                s.dueMatters(what + ", left at last", desk, order[at], 0, at == 0, instructions);
            }
        }
    }

    private static void longChainOfAll() {
        Sentence s = new Sentence(13, "such that");
        for (int[] order : orders()) {
            // All results in turn; then each one's parameters in turn, for it hands i + 1 to itself as i; so back to 0.
            ProcedureDesk desk = Answers.desk(3, 3, 3, 3, 3);
            for (int at = 0; at < 5; at++) {
                body(desk, order[at], call(5, 1, order[at]), add(5, 0, 0));
                body(desk, order[at], at < 4 ? call(5, 3, order[at + 1]) : add(5, 5, 5), back(5));
            }
            for (int at = 0; at < 5; at++) {
                s.dueMatters("all, " + Arrays.toString(order), desk, order[at], 7, true, 15);
            }
            desk.drop(0);
            for (int at = 0; at < 5; at++) {
                int instructions = at == 0 ? 5 : at < 4 ? 13 : 9;
                s.dueMatters("none, " + Arrays.toString(order), desk, order[at], 0, at == 0, instructions);
            }
        }
    }

    private static void resultOfTheFirst() {
        Sentence s = new Sentence(14, "the result of procedure 0 matters");
        s.due("without instructions", true, Answers.desk(0).resultMatters(0));
        s.due("beside others", true, Answers.desk(0, 0, 0, 0, 0).resultMatters(0));
        for (int a = 0; a < 6; a++) {
            s.dueMatters("BACK " + a, single(3, back(a)), 0, a < 3 ? 1 << a : 0, true, 1);
        }
        ProcedureDesk left = Answers.desk(1, 0);
        body(left, 0, back(0));
        body(left, 1, call(1, 0, 0));
        s.dueMatters("called where its result is left", left, 0, 1, true, 1);
        s.due("that of the caller", false, left.resultMatters(1));
    }

    private static void resultOfOneCalled() {
        Sentence s = new Sentence(14, "the result of q matters when q is called by a CALL whose register a is LIVE after it");
        for (int q = 1; q < 5; q++) {
            for (int a = 0; a < 6; a++) {
                ProcedureDesk desk = Answers.desk(3, 0, 0, 0, 0);
                body(desk, 0, call(a, 0, q), out(a));
                for (int p = 1; p < 5; p++) {
                    s.due("CALL of " + q + " to " + a + ", result of " + p, p == q, desk.resultMatters(p));
                }
                body(desk, q, set(1, 5), back(1));
                s.dueMatters("what it ends with", desk, q, 0, true, 3);
            }
        }
        ProcedureDesk one = Answers.desk(0, 0);
        body(one, 0, call(0, 0, 1), call(0, 0, 1), out(0));
        s.due("the second of two CALLs", true, one.resultMatters(1));
        ProcedureDesk other = Answers.desk(0, 0);
        body(other, 0, call(0, 0, 1), out(0), call(0, 0, 1));
        s.due("the first of two CALLs", true, other.resultMatters(1));
        ProcedureDesk nobody = Answers.desk(0, 0, 0);
        body(nobody, 1, call(0, 0, 2), out(0));
        s.due("by one that nobody calls", true, nobody.resultMatters(2));
        s.due("one that nobody calls", false, nobody.resultMatters(1));
        ProcedureDesk behind = Answers.desk(0, 0);
        body(behind, 0, back(0), call(0, 0, 1), out(0));
        s.due("by a CALL behind BACK", true, behind.resultMatters(1));
        ProcedureDesk chain = Answers.desk(0, 0, 0, 0, 0);
        for (int p = 0; p < 4; p++) {
            body(chain, p, call(2, 0, p + 1), back(2));
        }
        s.due("each because of the one before", true, chain.resultMatters(4));
    }

    private static void resultLiveByFork() {
        Sentence s = new Sentence(14, "called by a CALL whose register a is LIVE after it");
        ProcedureDesk far = Answers.desk(1, 0);
        body(far, 0, call(1, 0, 1), fork(0, 3), back(0), back(1));
        s.due("live where FORK goes", true, far.resultMatters(1));
        ProcedureDesk near = Answers.desk(1, 0);
        body(near, 0, call(1, 0, 1), fork(0, 3), back(1), back(0));
        s.due("live behind FORK", true, near.resultMatters(1));
        ProcedureDesk neither = Answers.desk(1, 0);
        body(neither, 0, call(1, 0, 1), fork(0, 3), back(0), back(0), back(1));
        s.due("live on neither way", false, neither.resultMatters(1));
    }

    private static void resultThatIsNotLive() {
        Sentence s = new Sentence(14, "whose register a is LIVE after it");
        int[][] setting = {set(2, 1), add(2, 0, 1), sub(2, 0, 1), less(2, 0, 1), call(2, 0, 2)};
        for (int[] over : setting) {
            ProcedureDesk desk = Answers.desk(2, 1, 0);
            body(desk, 0, call(2, 0, 1), over, out(2));
            body(desk, 1, add(0, 0, 0), back(0));
            s.dueMatters("set over by op " + over[0], desk, 1, 0, false, 2);
        }
        ProcedureDesk last = Answers.desk(0, 1);
        repeat(last, 0, 7, out(0));
        body(last, 0, call(0, 0, 1));
        body(last, 1, back(0));
        s.dueMatters("CALL at the eighth place", last, 1, 0, false, 1);
        ProcedureDesk before = Answers.desk(1, 1);
        body(before, 0, out(0), call(0, 0, 1));
        s.due("live before it alone", false, before.resultMatters(1));
        ProcedureDesk another = Answers.desk(1, 1);
        body(another, 0, call(1, 0, 1), back(0));
        s.due("another register is live", false, another.resultMatters(1));
        ProcedureDesk end = Answers.desk(0, 0, 0);
        body(end, 0, call(1, 0, 1));
        body(end, 1, call(1, 0, 2), back(1));
        s.due("needed by one whose own does not matter", false, end.resultMatters(2));
        s.due("called by none", false, Answers.desk(0, 0).resultMatters(1));
    }

    private static void liveByRead() {
        Sentence s = new Sentence(13, "there is an instruction at k that READS x in a way that matters");
        for (int x = 0; x < 3; x++) {
            s.due("OUT " + x, 1 << x, single(3, out(x)).parametersThatMatter(0));
            s.due("FORK " + x, 1 << x, single(3, fork(x, 1)).parametersThatMatter(0));
            s.due("BACK " + x, 1 << x, single(3, back(x)).parametersThatMatter(0));
            s.due("ADD " + x, 1 << x, single(3, add(5, x, 4), out(5)).parametersThatMatter(0));
            s.due("SUB " + x, 1 << x, single(3, sub(5, 4, x), out(5)).parametersThatMatter(0));
            s.due("LESS " + x, 1 << x, single(3, less(5, x, x), out(5)).parametersThatMatter(0));
            ProcedureDesk desk = Answers.desk(3, 1);
            body(desk, 0, call(5, x, 1));
            body(desk, 1, out(0));
            s.due("CALL " + x, 1 << x, desk.parametersThatMatter(0));
        }
        s.due("no instruction at all", 0, Answers.desk(3).parametersThatMatter(0));
        ProcedureDesk dropped = single(3, out(0), out(1));
        dropped.drop(0);
        s.due("an instruction that was dropped", 1, dropped.parametersThatMatter(0));
        ProcedureDesk sets = single(3, set(3, 0), set(4, 1), set(5, 2));
        s.due("SET reads nothing", 0, sets.parametersThatMatter(0));
    }

    private static void liveThroughWhatDoesNotSet() {
        Sentence s = new Sentence(13, "or there is one that does not set x (SET, ADD, SUB, LESS and CALL set register a) and x is live after it");
        int[][] each = {set(3, 1), add(3, 4, 4), sub(3, 4, 4), less(3, 4, 4), fork(3, 8), call(3, 6, 1), out(3)};
        for (int[] through : each) {
            for (int count = 1; count <= 7; count++) {
                ProcedureDesk desk = Answers.desk(3, 0);
                repeat(desk, 0, count, through);
                body(desk, 0, out(2));
                s.due(count + " of op " + through[0], 4, desk.parametersThatMatter(0));
            }
        }
        ProcedureDesk own = Answers.desk(3, 0);
        body(own, 0, out(1), fork(1, 2), out(1), back(0));
        s.due("OUT and FORK do not set what they read", 3, own.parametersThatMatter(0));
    }

    private static void notLiveThroughWhatSets() {
        Sentence s = new Sentence(13, "(SET, ADD, SUB, LESS and CALL set register a)");
        for (int x = 0; x < 3; x++) {
            int[][] setting = {set(x, 1), add(x, 4, 4), sub(x, 4, 4), less(x, 4, 4), call(x, 6, 1)};
            for (int[] over : setting) {
                ProcedureDesk desk = Answers.desk(3, 0);
                body(desk, 0, over, out(0), out(1), out(2));
                s.due("op " + over[0] + " to " + x, 7 - (1 << x), desk.parametersThatMatter(0));
            }
            // b and c of a SET are no reads, and its own register is set all the same.
            ProcedureDesk named = Answers.desk(3);
            named.emit(0, Answers.SET, Answers.abc(x, x, x), 1);
            body(named, 0, out(x));
            s.due("SET with b and c " + x, 0, named.parametersThatMatter(0));
        }
        ProcedureDesk both = Answers.desk(3, 1);
        body(both, 0, call(0, 0, 1), out(0));
        body(both, 1, out(0));
        s.due("a CALL that reads what it sets", 1, both.parametersThatMatter(0));
        ProcedureDesk adds = single(2, add(0, 0, 1), out(0));
        s.due("an ADD that reads what it sets", 3, adds.parametersThatMatter(0));
    }

    private static void liveAfterFork() {
        Sentence s = new Sentence(13, "n or k + 1 for FORK");
        for (int k = 0; k < 6; k++) {
            for (int n = k + 2; n <= 7; n++) {
                // At n register 1 is read, at k + 1 register 2, and each way ends there.
                ProcedureDesk desk = Answers.desk(3);
                repeat(desk, 0, k, set(5, 0));
                body(desk, 0, fork(4, n), back(2));
                repeat(desk, 0, n - k - 2, back(0));
                body(desk, 0, back(1));
                s.due("FORK at " + k + " to " + n, 6, desk.parametersThatMatter(0));
            }
        }
        s.due("FORK to the next", 1, single(3, fork(0, 1), back(0), back(1)).parametersThatMatter(0));
        ProcedureDesk way = single(3, set(1, 5), fork(0, 3), set(1, 4), back(1));
        s.dueMatters("SET that one of the two ways needs", way, 0, 1, true, 15);
        ProcedureDesk over = single(3, set(1, 5), fork(0, 4), set(1, 4), back(1), set(1, 3), back(1));
        s.dueMatters("SET that neither of them needs", over, 0, 1, true, 62);
    }

    private static void liveAfterForkBehindTheLast() {
        Sentence s = new Sentence(13, "live before a position where the activation can go on");
        for (int n = 1; n <= 8; n++) {
            ProcedureDesk desk = Answers.desk(3, 3);
            body(desk, 0, fork(0, n));
            repeat(desk, 1, 8, out(1));
            s.due("FORK to " + n + ", where nothing is", 1, desk.parametersThatMatter(0));
        }
        ProcedureDesk dropped = single(3, fork(0, 3), back(0), back(0), back(2));
        s.due("FORK to an instruction", 5, dropped.parametersThatMatter(0));
        dropped.drop(0);
        s.due("FORK to one that was dropped", 1, dropped.parametersThatMatter(0));
        body(dropped, 0, back(1));
        s.due("FORK to one in its place", 3, dropped.parametersThatMatter(0));
    }

    private static void liveAfterBack() {
        Sentence s = new Sentence(13, "none for BACK");
        for (int k = 0; k < 7; k++) {
            ProcedureDesk desk = Answers.desk(3);
            repeat(desk, 0, k, set(4, 1));
            body(desk, 0, back(0), out(1));
            s.due("OUT behind a BACK at " + k, 1, desk.parametersThatMatter(0));
        }
        ProcedureDesk set = single(3, set(1, 4), back(0), out(1));
        s.dueMatters("SET before BACK, OUT behind it", set, 0, 1, true, 6);
        ProcedureDesk called = Answers.desk(0, 2);
        body(called, 0, call(0, 0, 1));
        body(called, 1, back(0), out(1));
        s.dueMatters("BACK that does not read", called, 1, 0, false, 3);
    }

    private static void liveAfterTheOthers() {
        Sentence s = new Sentence(15, "k + 1 for the others");
        int[][] each = {set(2, 1), add(2, 0, 0), sub(2, 0, 0), less(2, 0, 0)};
        for (int[] setting : each) {
            for (int k = 0; k < 7; k++) {
                ProcedureDesk desk = Answers.desk(3);
                repeat(desk, 0, k, set(5, 1));
                body(desk, 0, setting, out(2));
                String what = "op " + setting[0] + " at " + k + " and a read behind it";
                s.due(what, 3 << k, desk.instructionsThatMatter(0));
                desk.drop(0);
                s.due(what + ", dropped", 0, desk.instructionsThatMatter(0));
            }
        }
        ProcedureDesk through = Answers.desk(3, 0);
        body(through, 0, set(1, 1), out(0), call(2, 6, 1), set(3, 1), back(1));
        s.dueMatters("past OUT, CALL and SET", through, 0, 1, true, 23);
        s.due("where nothing goes on", 7, single(0, back(0), set(1, 1), out(1)).instructionsThatMatter(0));
    }

    private static void liveAfterTheEighth() {
        Sentence s = new Sentence(15, "live before a position where the activation can go on");
        for (int p = 0; p < 4; p++) {
            // What stands first in the next procedure is no position of this one.
            ProcedureDesk desk = Answers.desk(3, 3, 3, 3, 3);
            repeat(desk, p, 7, out(5));
            body(desk, p, set(1, 1));
            body(desk, p + 1, out(0), out(1), out(2));
            s.dueMatters("SET at the eighth place of " + p, desk, p, 0, p == 0, 127);
            s.dueMatters("what the next procedure reads", desk, p + 1, 7, false, 7);
        }
        ProcedureDesk last = Answers.desk(3, 3, 3, 3, 3);
        repeat(last, 4, 7, set(0, 1));
        body(last, 4, out(0));
        s.dueMatters("OUT at the eighth place of 4", last, 4, 0, false, 192);
    }

    private static void computingReads() {
        Sentence s = new Sentence(13, "ADD, SUB and LESS read b and c when their register a is live after them");
        for (int op = Answers.ADD; op <= Answers.LESS; op++) {
            for (int b = 0; b < 3; b++) {
                for (int c = 0; c < 3; c++) {
                    for (int a = 0; a < 6; a++) {
                        int[] computing = {op, a, b, c, 0};
                        String what = "op " + op + " " + a + " " + b + " " + c;
                        int want = 1 << b | 1 << c;
                        s.dueMatters(what, single(3, computing, out(a)), 0, want, true, 3);
                    }
                }
            }
        }
    }

    private static void computingDoesNotRead() {
        Sentence s = new Sentence(13, "when their register a is live after them");
        for (int op = Answers.ADD; op <= Answers.LESS; op++) {
            for (int a = 0; a < 6; a++) {
                int[] computing = {op, a, 0, 1, 0};
                String what = "op " + op + " to " + a;
                s.dueMatters(what + ", never read", single(2, computing), 0, 0, true, 0);
                s.dueMatters(what + ", set over", single(2, computing, set(a, 1), out(a)), 0, 0, true, 6);
                ProcedureDesk behind = single(2, computing, back(a == 5 ? 4 : 5), out(a));
                s.dueMatters(what + ", behind BACK", behind, 0, 0, true, 6);
            }
            int[] computing = {op, 2, 0, 1, 0};
            ProcedureDesk chain = single(2, computing, add(3, 2, 2), sub(4, 3, 3));
            s.dueMatters("op " + op + ", for what is never read", chain, 0, 0, true, 0);
        }
    }

    private static void forkAndOutRead() {
        Sentence s = new Sentence(13, "FORK and OUT read a");
        for (int a = 0; a < 6; a++) {
            for (int p = 0; p < 2; p++) {
                int want = a < 3 ? 1 << a : 0;
                ProcedureDesk puts = Answers.desk(3, 3);
                body(puts, p, out(a));
                s.dueMatters("OUT " + a + " in " + p, puts, p, want, p == 0, 1);
                ProcedureDesk forks = Answers.desk(3, 3);
                body(forks, p, fork(a, 8));
                s.dueMatters("FORK " + a + " in " + p, forks, p, want, p == 0, 1);
            }
        }
        ProcedureDesk named = Answers.desk(3);
        named.emit(0, Answers.OUT, Answers.abc(0, 1, 2), 0);
        named.emit(0, Answers.FORK, Answers.abc(0, 1, 2), 2);
        named.emit(0, Answers.BACK, Answers.abc(0, 1, 2), 0);
        s.due("not b and c", 1, named.parametersThatMatter(0));
    }

    private static void backReads() {
        Sentence s = new Sentence(13, "BACK reads a when the result of its procedure matters");
        for (int a = 0; a < 3; a++) {
            ProcedureDesk desk = Answers.desk(3, 3);
            body(desk, 0, call(3, 0, 1));
            body(desk, 1, back(a));
            s.dueMatters("result left", desk, 1, 0, false, 1);
            s.dueMatters("result left", desk, 0, 0, true, 1);
            body(desk, 0, back(3));
            s.dueMatters("result needed", desk, 1, 1 << a, true, 1);
            s.dueMatters("result needed", desk, 0, 1 << a, true, 3);
        }
        ProcedureDesk computed = Answers.desk(0, 2);
        body(computed, 0, call(3, 0, 1));
        body(computed, 1, add(2, 0, 1), back(2));
        s.dueMatters("computed for a result left", computed, 1, 0, false, 2);
        body(computed, 0, fork(3, 2));
        s.dueMatters("computed for a result needed", computed, 1, 3, true, 3);
    }

    private static void callReads() {
        Sentence s = new Sentence(13, "CALL reads register b + i for every i for which");
        for (int b = 0; b <= 3; b++) {
            for (int needed = 0; needed < 8; needed++) {
                for (int a = 0; a < 6; a++) {
                    ProcedureDesk desk = Answers.desk(3, 3);
                    body(desk, 0, call(a, b, 1));
                    body(desk, 1, set(5, 1));
                    for (int i = 0; i < 3; i++) {
                        if ((needed >> i & 1) == 1) {
                            body(desk, 1, out(i));
                        }
                    }
                    String what = "CALL " + a + " " + b + " where " + needed + " matter";
                    s.due(what, needed, desk.parametersThatMatter(1));
                    s.due(what + ", in the caller", (needed << b) & 7, desk.parametersThatMatter(0));
                }
            }
        }
        ProcedureDesk high = Answers.desk(0, 3);
        body(high, 0, set(3, 1), set(4, 1), set(5, 1), set(2, 1), call(0, 3, 1));
        body(high, 1, out(0), out(2));
        s.due("registers 3 and 5", 21, high.instructionsThatMatter(0));
        ProcedureDesk later = Answers.desk(2, 1);
        body(later, 1, out(0), call(1, 1, 0));
        body(later, 0, out(1));
        s.due("a CALL of the first one", 1, later.parametersThatMatter(1));
    }

    private static void callReadsParametersAlone() {
        Sentence s = new Sentence(13, "parameter i of the procedure called matters");
        for (int count = 0; count <= 3; count++) {
            for (int b = 0; b + count <= 6; b++) {
                ProcedureDesk desk = Answers.desk(3, count);
                body(desk, 0, call(5, b, 1));
                body(desk, 1, out(0), out(1), out(2), out(3), out(4), out(5));
                int all = (1 << count) - 1;
                s.due("one with " + count + " that reads all registers", all, desk.parametersThatMatter(1));
                s.due("its caller, b " + b, (all << b) & 7, desk.parametersThatMatter(0));
            }
        }
    }

    private static void parametersLiveAtFirst() {
        Sentence s = new Sentence(13, "parameter i of a procedure matters when register i is live before position 0 of it");
        for (int i = 0; i < 3; i++) {
            s.due("read at 0", 1 << i, single(3, out(i)).parametersThatMatter(0));
            s.due("set at 0, read at 1", 0, single(3, set(i, 1), out(i)).parametersThatMatter(0));
            s.due("read at 0, set at 1", 1 << i, single(3, out(i), set(i, 1), out(i)).parametersThatMatter(0));
            s.due("behind a BACK at 0", 0, single(3, back(5), out(i)).parametersThatMatter(0));
            ProcedureDesk late = Answers.desk(3);
            repeat(late, 0, 7, set(5, 1));
            body(late, 0, out(i));
            s.due("read at 7 alone", 1 << i, late.parametersThatMatter(0));
            s.due("set on one way alone", 1 << i | 1 << (i + 1) % 3,
                single(3, fork((i + 1) % 3, 2), set(i, 1), out(i)).parametersThatMatter(0));
        }
    }

    private static void forkCallOutMatter() {
        Sentence s = new Sentence(15, "An instruction MATTERS when it is FORK, CALL or OUT");
        int[][] each = {fork(0, 8), call(5, 0, 1), out(0)};
        for (int[] instruction : each) {
            for (int p = 0; p < 2; p++) {
                ProcedureDesk desk = Answers.desk(0, 0);
                repeat(desk, p, 8, instruction);
                s.due("eight of op " + instruction[0] + " in " + p, 255, desk.instructionsThatMatter(p));
                ProcedureDesk behind = Answers.desk(0, 0);
                body(behind, p, set(0, 1), back(5), instruction, set(1, 1));
                s.due("op " + instruction[0] + " behind BACK in " + p, 6, behind.instructionsThatMatter(p));
            }
        }
        s.due("FORK to the next position", 1, single(0, fork(5, 1)).instructionsThatMatter(0));
    }

    private static void backMatters() {
        Sentence s = new Sentence(15, "when it is BACK");
        ProcedureDesk desk = Answers.desk(0, 0);
        repeat(desk, 0, 8, back(0));
        repeat(desk, 1, 8, back(0));
        s.due("eight of them", 255, desk.instructionsThatMatter(0));
        s.due("where the result does not matter", 255, desk.instructionsThatMatter(1));
    }

    private static void settingMatters() {
        Sentence s = new Sentence(15, "or when it is SET, ADD, SUB or LESS and its register a is live after it");
        for (int a = 0; a < 6; a++) {
            int[][] each = {set(a, 1), add(a, 0, 1), sub(a, 0, 1), less(a, 0, 1)};
            for (int[] setting : each) {
                String what = "op " + setting[0] + " to " + a;
                s.due(what + ", needed", 3, single(3, setting, back(a)).instructionsThatMatter(0));
                s.due(what + ", not needed", 2, single(3, setting, back((a + 1) % 6)).instructionsThatMatter(0));
                s.due(what + ", live before it alone", 1, single(3, out(a), setting).instructionsThatMatter(0));
                s.due(what + ", the second of two", 6, single(0, setting, set(a, 9), out(a)).instructionsThatMatter(0));
                ProcedureDesk left = Answers.desk(0, 3);
                body(left, 1, setting, back(a));
                s.due(what + ", for a result that does not matter", 2, left.instructionsThatMatter(1));
                ProcedureDesk handed = Answers.desk(0, 1);
                body(handed, 0, setting, call((a + 1) % 6, a, 1));
                s.due(what + ", for a parameter that does not matter", 2, handed.instructionsThatMatter(0));
                body(handed, 1, out(0));
                s.due(what + ", for a parameter that matters", 3, handed.instructionsThatMatter(0));
            }
        }
    }

    private static void parametersAsBits() {
        Sentence s = new Sentence(13, "bit i for parameter i");
        for (int p = 0; p < 5; p++) {
            for (int bits = 0; bits < 8; bits++) {
                for (int count = 0; count <= 3; count++) {
                    ProcedureDesk desk = new ProcedureDesk();
                    for (int q = 0; q < 5; q++) {
                        desk.declare(q == p ? count : 3 - count);
                    }
                    for (int i = 0; i < 3; i++) {
                        if ((bits >> i & 1) == 1) {
                            body(desk, p, out(i));
                        }
                    }
                    int want = bits & ((1 << count) - 1);
                    s.due("procedure " + p + ", " + count + " parameters", want, desk.parametersThatMatter(p));
                    s.due("another procedure", 0, desk.parametersThatMatter((p + 1) % 5));
                }
            }
        }
    }

    private static ProcedureDesk telling(int procedures) {
        ProcedureDesk desk = new ProcedureDesk();
        for (int p = 0; p < procedures; p++) {
            desk.declare(1);
            body(desk, p, call(1, 0, p), out(0), out(1));
        }
        return desk;
    }

    private static void parametersNotDeclared() {
        Sentence s = new Sentence(13, "0 when p is not declared");
        for (int procedures = 1; procedures <= 5; procedures++) {
            ProcedureDesk desk = telling(procedures);
            for (int p = 0; p < 5; p++) {
                s.due(p + " of " + procedures, p < procedures ? 1 : 0, desk.parametersThatMatter(p));
            }
            desk.clear();
            s.due("forgotten", 0, desk.parametersThatMatter(procedures - 1));
        }
        for (int p : NEVER_DECLARED) {
            s.refused("of " + p, 0, ran(5), desk -> desk.parametersThatMatter(p));
            s.due("of " + p, 0, telling(5).parametersThatMatter(p));
        }
        for (int p : FAR) {
            s.due("of " + p, 0, telling(5).parametersThatMatter(p));
        }
        s.due("new object", 0, new ProcedureDesk().parametersThatMatter(0));
    }

    private static void resultTold() {
        Sentence s = new Sentence(14, "Whether the result of procedure p matters");
        for (int bits = 0; bits < 16; bits++) {
            ProcedureDesk desk = Answers.desk(0, 0, 0, 0, 0);
            for (int q = 1; q < 5; q++) {
                boolean needed = (bits >> (q - 1) & 1) == 1;
                body(desk, 0, call(q, 0, q), out(needed ? q : 0));
            }
            s.due("procedure 0", true, desk.resultMatters(0));
            for (int q = 1; q < 5; q++) {
                s.due("procedure " + q + " of " + bits, (bits >> (q - 1) & 1) == 1, desk.resultMatters(q));
            }
        }
    }

    private static void resultNotDeclared() {
        Sentence s = new Sentence(14, "false when it is not declared");
        s.due("new object", false, new ProcedureDesk().resultMatters(0));
        for (int procedures = 1; procedures <= 5; procedures++) {
            ProcedureDesk desk = telling(procedures);
            for (int p = 0; p < 5; p++) {
                s.due(p + " of " + procedures, p < procedures, desk.resultMatters(p));
            }
            desk.clear();
            s.due("forgotten, 0", false, desk.resultMatters(0));
            s.due("forgotten", false, desk.resultMatters(procedures - 1));
        }
        for (int p : NEVER_DECLARED) {
            s.refused("of " + p, 0, ran(5), desk -> desk.resultMatters(p) ? 1 : 0);
            s.due("of " + p, false, telling(5).resultMatters(p));
        }
        for (int p : FAR) {
            s.due("of " + p, false, telling(5).resultMatters(p));
        }
    }

    private static void instructionsAsBits() {
        Sentence s = new Sentence(15, "bit k for position k");
        for (int bits = 0; bits < 256; bits++) {
            int p = bits % 5;
            ProcedureDesk desk = Answers.desk(1, 1, 1, 1, 1);
            for (int k = 0; k < 8; k++) {
                body(desk, p, (bits >> k & 1) == 1 ? out(0) : set(1, k));
            }
            s.due("of procedure " + p, bits, desk.instructionsThatMatter(p));
            s.due("of another", 0, desk.instructionsThatMatter((p + 1) % 5));
        }
        ProcedureDesk growing = Answers.desk(0);
        for (int k = 0; k < 8; k++) {
            s.due("of " + k, (1 << k) - 1, growing.instructionsThatMatter(0));
            body(growing, 0, out(0));
        }
        for (int k = 7; k >= 0; k--) {
            growing.drop(0);
            s.due("dropped, of " + k, (1 << k) - 1, growing.instructionsThatMatter(0));
        }
    }

    private static void instructionsNotDeclared() {
        Sentence s = new Sentence(15, "0 when p is not declared");
        for (int procedures = 1; procedures <= 5; procedures++) {
            ProcedureDesk desk = telling(procedures);
            for (int p = 0; p < 5; p++) {
                s.due(p + " of " + procedures, p < procedures ? 7 : 0, desk.instructionsThatMatter(p));
            }
            desk.clear();
            s.due("forgotten", 0, desk.instructionsThatMatter(procedures - 1));
        }
        for (int p : NEVER_DECLARED) {
            s.refused("of " + p, 0, ran(5), desk -> desk.instructionsThatMatter(p));
            s.due("of " + p, 0, telling(5).instructionsThatMatter(p));
        }
        for (int p : FAR) {
            s.due("of " + p, 0, telling(5).instructionsThatMatter(p));
        }
        s.due("new object", 0, new ProcedureDesk().instructionsThatMatter(0));
    }

    private static void followsEachChange() {
        Sentence s = new Sentence(15, "WHAT MATTERS is the least collection of facts");
        ProcedureDesk desk = Answers.desk(2, 2);
        body(desk, 0, add(2, 0, 1), call(3, 1, 1), back(3));
        body(desk, 1, sub(4, 0, 1), back(4));
        s.dueMatters("at first", desk, 0, 3, true, 7);
        s.dueMatters("at first", desk, 1, 3, true, 3);
        desk.drop(0);
        s.dueMatters("after a drop", desk, 0, 0, true, 2);
        s.dueMatters("after a drop", desk, 1, 0, false, 2);
        body(desk, 0, out(3));
        s.dueMatters("after an emit", desk, 1, 3, true, 3);
        desk.declare(3);
        desk.run(1, 2, 3);
        s.dueMatters("after declare and run", desk, 0, 3, true, 7);
        s.dueMatters("after declare and run", desk, 2, 0, false, 0);
        desk.clear();
        desk.declare(2);
        s.dueMatters("after clear and declare", desk, 0, 0, true, 0);
    }
}
