import java.util.ArrayList;
import java.util.List;

/**
 * All promises at once: many calls made from a fixed seed, each answered also by a model that is written another way,
 * with recursion for the run and the document's rules tried until none adds a fact.
 */
public final class ModelTest {
    private static final int OBJECTS = 8000;

    // An object is good for 512 calls, and one call with all the questions after it makes at most 13.
    private static final int CALLS = 512 - 13;

    private static long seed = 20261115L;
    private static int callsMade;
    private static boolean callsOnward;

    public static void main(String[] args) {
        int[] outcomes = new int[4];
        for (int i = 0; i < OBJECTS; i++) {
            useOneObject(i, outcomes);
        }
        for (int outcome = ProcedureDesk.DONE; outcome <= ProcedureDesk.DEEP; outcome++) {
            Answers.due(7, "outcome " + outcome + " was seen often", true, outcomes[outcome] > 1000);
        }
        Answers.end();
    }

    private static void due(int promise, String what, long want, long got) {
        callsMade++;
        Answers.due(promise, what, want, got);
    }

    /** A whole number from 0 to below the bound; the seed is fixed, so each time the same. */
    private static int pick(int bound) {
        seed = seed * 6364136223846793005L + 1442695040888963407L;
        return (int) ((seed >>> 33) % bound);
    }

    private static int pickNumber() {
        int[] numbers = {0, 0, 1, 1, 2, 3, -1, -2, 7, 100, Integer.MIN_VALUE, Integer.MAX_VALUE};
        return numbers[pick(numbers.length)];
    }

    private static void useOneObject(int object, int[] outcomes) {
        ProcedureDesk desk = new ProcedureDesk();
        Model model = new Model();
        callsMade = 0;
        // Programs whose calls go to later procedures are seldom DEEP, and so more often TIRED.
        callsOnward = pick(2) == 0;
        for (int i = 1 + pick(5); i > 0; i--) {
            int parameters = pick(callsOnward ? 3 : 4);
            due(2, "declare", model.declare(parameters), desk.declare(parameters));
        }
        for (int i = pick(80); i > 0; i--) {
            emitBoth("object " + object, desk, model);
        }
        while (callsMade < CALLS) {
            makeOneCall("object " + object + ", call " + callsMade, desk, model, outcomes);
        }
    }

    private static void makeOneCall(String what, ProcedureDesk desk, Model model, int[] outcomes) {
        int kind = pick(200);
        if (kind < 120) {
            emitBoth(what, desk, model);
        } else if (kind < 140) {
            int p = pick(7) - 1;
            due(4, what + ", drop", model.drop(p), desk.drop(p));
        } else if (kind < 141) {
            desk.clear();
            model.clear();
            callsMade++;
        } else if (kind < 146) {
            int parameters = pick(6) - 1;
            due(2, what + ", declare", model.declare(parameters), desk.declare(parameters));
        } else if (kind < 185) {
            int x = pickNumber();
            int y = pickNumber();
            int z = pickNumber();
            int want = model.run(x, y, z);
            due(7, what + ", run", want, desk.run(x, y, z));
            if (want >= 0) {
                outcomes[want]++;
            }
        } else {
            askWhatMatters(what, desk, model);
        }
        askAboutRun(what, desk, model);
    }

    private static void emitBoth(String what, ProcedureDesk desk, Model model) {
        int p = pick(20) == 0 ? pick(8) - 1 : pick(Math.max(1, model.procedures.size()));
        int op = pick(40) == 0 ? pick(12) - 2 : pick(8);
        if (op == Answers.BACK && pick(3) > 0 || callsOnward && pick(3) > 0) {
            op = Answers.CALL;
        }
        int abc = pick(40) == 0 ? pick(600) - 40 : pick(6) + 8 * pick(6) + 64 * pick(6);
        int n = pickN(p, op);
        due(3, what + ", emit " + p + " " + op + " " + abc + " " + n, model.emit(p, op, abc, n), desk.emit(p, op, abc, n));
    }

    private static int pickN(int p, int op) {
        if (op == Answers.FORK) {
            return pick(10);
        }
        if (op == Answers.CALL) {
            return callsOnward ? p + 1 + pick(2) : pick(6);
        }
        return pickNumber();
    }

    private static void askAboutRun(String what, ProcedureDesk desk, Model model) {
        due(8, what + ", outcome", model.outcome, desk.outcome());
        due(9, what + ", result", model.result, desk.result());
        due(10, what + ", steps", model.steps, desk.steps());
        due(11, what + ", outs", model.outs.size(), desk.outs());
        int k = pick(19) - 1;
        int want = k >= 0 && k <= 15 && k < model.outs.size() ? model.outs.get(k) : 0;
        due(12, what + ", out(" + k + ")", want, desk.out(k));
        int p = pick(7) - 1;
        due(6, what + ", length", model.has(p) ? model.procedures.get(p).size() : -1, desk.length(p));
    }

    /** One question of the three, so that none leans on what another one has found. */
    private static void askWhatMatters(String what, ProcedureDesk desk, Model model) {
        model.findFacts();
        int question = pick(3);
        for (int p = -1; p <= 5; p++) {
            if (question == 0) {
                due(13, what + ", parameters of " + p, model.parametersThatMatter(p), desk.parametersThatMatter(p));
            } else if (question == 1) {
                due(14, what + ", result of " + p, model.resultMatters(p), desk.resultMatters(p) ? 1 : 0);
            } else {
                due(15, what + ", instructions of " + p, model.instructionsThatMatter(p), desk.instructionsThatMatter(p));
            }
        }
    }

    private record Instruction(int op, int a, int b, int c, int n) {
        boolean computes() {
            return op == Answers.ADD || op == Answers.SUB || op == Answers.LESS;
        }

        boolean sets(int x) {
            return x == a && (op == Answers.SET || op == Answers.CALL || computes());
        }
    }

    private static final class Model {
        final List<List<Instruction>> procedures = new ArrayList<>();
        final List<Integer> parameters = new ArrayList<>();
        int outcome;
        int result;
        int steps;
        List<Integer> outs = new ArrayList<>();
        boolean[] resultFacts = new boolean[5];
        boolean[][][] liveFacts = new boolean[5][9][6];

        boolean has(int p) {
            return p >= 0 && p < procedures.size();
        }

        void forget() {
            outcome = 0;
            result = 0;
            steps = 0;
            outs = new ArrayList<>();
        }

        int declare(int count) {
            if (count < 0 || count > 3) {
                return -1;
            }
            if (procedures.size() == 5) {
                return -2;
            }
            procedures.add(new ArrayList<>());
            parameters.add(count);
            return procedures.size() - 1;
        }

        int emit(int p, int op, int abc, int n) {
            if (!has(p) || op < 0 || op > 7 || abc < 0 || abc > 511) {
                return -1;
            }
            Instruction made = new Instruction(op, abc % 8, abc / 8 % 8, abc / 64, n);
            int position = procedures.get(p).size();
            if (made.a > 5 || made.computes() && (made.b > 5 || made.c > 5)) {
                return -1;
            }
            if (op == Answers.FORK && (n < position + 1 || n > 8)) {
                return -1;
            }
            if (op == Answers.CALL && (!has(n) || made.b + parameters.get(n) > 6)) {
                return -1;
            }
            if (position == 8) {
                return -2;
            }
            procedures.get(p).add(made);
            forget();
            return position;
        }

        int drop(int p) {
            if (!has(p) || procedures.get(p).isEmpty()) {
                return -1;
            }
            List<Instruction> body = procedures.get(p);
            body.remove(body.size() - 1);
            forget();
            return body.size();
        }

        void clear() {
            procedures.clear();
            parameters.clear();
            forget();
        }

        int run(int x, int y, int z) {
            if (procedures.isEmpty()) {
                return -1;
            }
            forget();
            int value = activate(0, new int[] {x, y, z}, 1);
            if (outcome == 0) {
                outcome = 1;
                result = value;
            }
            return outcome;
        }

        /** The result of the activation; when the run stops in it, outcome tells so. */
        int activate(int p, int[] given, int depth) {
            int[] r = new int[6];
            System.arraycopy(given, 0, r, 0, parameters.get(p));
            List<Instruction> body = procedures.get(p);
            int k = 0;
            while (k < body.size()) {
                Instruction i = body.get(k);
                if (steps == 150) {
                    outcome = 2;
                    return 0;
                }
                if (i.op == Answers.CALL && depth == 10) {
                    outcome = 3;
                    return 0;
                }
                steps++;
                k++;
                switch (i.op) {
                    case Answers.SET -> r[i.a] = i.n;
                    case Answers.ADD -> r[i.a] = r[i.b] + r[i.c];
                    case Answers.SUB -> r[i.a] = r[i.b] - r[i.c];
                    case Answers.LESS -> r[i.a] = r[i.b] < r[i.c] ? 1 : 0;
                    case Answers.FORK -> k = r[i.a] == 0 ? i.n : k;
                    case Answers.OUT -> outs.add(r[i.a]);
                    case Answers.CALL -> {
                        int[] handed = new int[3];
                        System.arraycopy(r, i.b, handed, 0, parameters.get(i.n));
                        int value = activate(i.n, handed, depth + 1);
                        if (outcome != 0) {
                            return 0;
                        }
                        r[i.a] = value;
                    }
                    default -> {
                        return r[i.a];
                    }
                }
            }
            return 0;
        }

        void findFacts() {
            resultFacts = new boolean[5];
            liveFacts = new boolean[5][9][6];
            resultFacts[0] = true;
            boolean more = true;
            while (more) {
                more = false;
                for (int p = 0; p < procedures.size(); p++) {
                    for (int k = 0; k < procedures.get(p).size(); k++) {
                        more |= addFacts(p, k);
                    }
                }
            }
        }

        boolean addFacts(int p, int k) {
            Instruction i = procedures.get(p).get(k);
            boolean more = false;
            if (i.op == Answers.CALL && liveAfter(p, k, i.a) && !resultFacts[i.n]) {
                resultFacts[i.n] = true;
                more = true;
            }
            for (int x = 0; x < 6; x++) {
                boolean live = reads(p, k, x) || !i.sets(x) && liveAfter(p, k, x);
                if (live && !liveFacts[p][k][x]) {
                    liveFacts[p][k][x] = true;
                    more = true;
                }
            }
            return more;
        }

        boolean liveAfter(int p, int k, int x) {
            Instruction i = procedures.get(p).get(k);
            if (i.op == Answers.BACK) {
                return false;
            }
            return liveFacts[p][k + 1][x] || i.op == Answers.FORK && liveFacts[p][i.n][x];
        }

        boolean reads(int p, int k, int x) {
            Instruction i = procedures.get(p).get(k);
            return switch (i.op) {
                case Answers.ADD, Answers.SUB, Answers.LESS -> (x == i.b || x == i.c) && liveAfter(p, k, i.a);
                case Answers.FORK, Answers.OUT -> x == i.a;
                case Answers.BACK -> x == i.a && resultFacts[p];
                case Answers.CALL -> x >= i.b && x < i.b + parameters.get(i.n) && liveFacts[i.n][0][x - i.b];
                default -> false;
            };
        }

        int parametersThatMatter(int p) {
            int bits = 0;
            for (int i = 0; has(p) && i < parameters.get(p); i++) {
                bits |= liveFacts[p][0][i] ? 1 << i : 0;
            }
            return bits;
        }

        int resultMatters(int p) {
            return has(p) && resultFacts[p] ? 1 : 0;
        }

        int instructionsThatMatter(int p) {
            int bits = 0;
            for (int k = 0; has(p) && k < procedures.get(p).size(); k++) {
                Instruction i = procedures.get(p).get(k);
                boolean always = i.op >= Answers.FORK;
                bits |= always || liveAfter(p, k, i.a) ? 1 << k : 0;
            }
            return bits;
        }
    }
}
