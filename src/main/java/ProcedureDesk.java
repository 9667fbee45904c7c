/** Runs small programs of procedures, and says which parameters, results and instructions of them matter. */
public final class ProcedureDesk {
    public static final int BAD = -1;
    public static final int FULL = -2;
    public static final int NONE = 0;
    public static final int DONE = 1;
    public static final int TIRED = 2;
    public static final int DEEP = 3;

    private static final int SET = 0;
    private static final int ADD = 1;
    private static final int SUB = 2;
    private static final int LESS = 3;
    private static final int FORK = 4;
    private static final int CALL = 5;
    private static final int OUT = 6;
    private static final int BACK = 7;

    private static final int PROCEDURES = 5;
    private static final int PARAMETERS = 3;
    private static final int PLACES = 8;
    private static final int REGISTERS = 6;
    private static final int ACTIVATIONS = 10;
    private static final int STEPS = 150;
    private static final int KEPT_OUTS = 16;
    private static final int GREATEST_ABC = 511;

    private static final int ALL_PLACES = PROCEDURES * PLACES;
    private static final int ALL_REGISTERS = ACTIVATIONS * REGISTERS;

    // A FORK can go to position 8, one behind the last place, so each procedure has nine positions.
    private static final int POSITIONS = PLACES + 1;
    private static final int ALL_POSITIONS = PROCEDURES * POSITIONS;

    // A move is an instruction, an activation that ends at a position without one, or the look that stops the run:
    // at most STEPS, STEPS + 1 and 1 of them, so this stands far above what a run can need.
    private static final int MOVES = 1000;

    // A round that adds neither a result nor a parameter that matters leaves nothing for the next one;
    // there are PROCEDURES results and PROCEDURES * PARAMETERS parameters to add.
    private static final int ROUNDS = PROCEDURES + PROCEDURES * PARAMETERS + 1;

    private int declared;
    private final int[] parameterCounts = new int[PROCEDURES];
    private final int[] lengths = new int[PROCEDURES];

    private final int[] operations = new int[ALL_PLACES];
    private final int[] numbersA = new int[ALL_PLACES];
    private final int[] numbersB = new int[ALL_PLACES];
    private final int[] numbersC = new int[ALL_PLACES];
    private final int[] numbersN = new int[ALL_PLACES];

    private int lastOutcome;
    private int lastResult;
    private int stepCount;
    private int outCount;
    private final int[] keptOuts = new int[KEPT_OUTS];

    private int activations;
    private final int[] activeProcedures = new int[ACTIVATIONS];
    private final int[] activePositions = new int[ACTIVATIONS];
    private final int[] resultRegisters = new int[ACTIVATIONS];
    private final int[] registers = new int[ALL_REGISTERS];

    // Bit p for the result of procedure p, and for each position bit x for register x.
    private int matteringResults;
    private final int[] liveBefore = new int[ALL_POSITIONS];

    public ProcedureDesk() {
    }

    public int declare(int parameters) {
        if (parameters < 0 || parameters > PARAMETERS) {
            return BAD;
        }
        if (declared >= PROCEDURES) {
            return FULL;
        }
        int p = declared;
        parameterCounts[p] = parameters;
        lengths[p] = 0;
        declared = p + 1;
        return p;
    }

    public int emit(int p, int op, int abc, int n) {
        if (!isDeclared(p) || op < SET || op > BACK || abc < 0 || abc > GREATEST_ABC) {
            return BAD;
        }
        int a = abc & 7;
        int b = (abc >> 3) & 7;
        int c = abc >> 6;
        if (!registersFit(op, a, b, c) || !targetFits(p, op, b, n)) {
            return BAD;
        }
        int position = lengths[p];
        if (position >= PLACES) {
            return FULL;
        }
        int place = p * PLACES + position;
        operations[place] = op;
        numbersA[place] = a;
        numbersB[place] = b;
        numbersC[place] = c;
        numbersN[place] = n;
        lengths[p] = position + 1;
        forgetRun();
        return position;
    }

    public int drop(int p) {
        if (!isDeclared(p) || lengths[p] == 0) {
            return BAD;
        }
        lengths[p]--;
        forgetRun();
        return lengths[p];
    }

    public void clear() {
        declared = 0;
        forgetRun();
    }

    public int length(int p) {
        return isDeclared(p) ? lengths[p] : BAD;
    }

    public int run(int x, int y, int z) {
        if (declared == 0) {
            return BAD;
        }
        forgetRun();
        beginFirstActivation(x, y, z);
        for (int move = 0; move < MOVES && lastOutcome == NONE; move++) {
            makeMove();
        }
        return lastOutcome;
    }

    public int outcome() {
        return lastOutcome;
    }

    public int result() {
        return lastResult;
    }

    public int steps() {
        return stepCount;
    }

    public int outs() {
        return outCount;
    }

    public int out(int k) {
        return k >= 0 && k < KEPT_OUTS && k < outCount ? keptOuts[k] : 0;
    }

    public int parametersThatMatter(int p) {
        if (!isDeclared(p)) {
            return 0;
        }
        findWhatMatters();
        return matteringParameters(p);
    }

    public boolean resultMatters(int p) {
        if (!isDeclared(p)) {
            return false;
        }
        findWhatMatters();
        return hasBit(matteringResults, p);
    }

    public int instructionsThatMatter(int p) {
        if (!isDeclared(p)) {
            return 0;
        }
        findWhatMatters();
        int mattering = 0;
        for (int k = 0; k < lengths[p]; k++) {
            if (instructionMatters(p, k)) {
                mattering |= 1 << k;
            }
        }
        return mattering;
    }

    private boolean isDeclared(int p) {
        return p >= 0 && p < declared;
    }

    private static boolean isRegister(int number) {
        return number >= 0 && number < REGISTERS;
    }

    private static boolean isArithmetic(int op) {
        return op == ADD || op == SUB || op == LESS;
    }

    private static boolean hasBit(int bits, int i) {
        return ((bits >> i) & 1) == 1;
    }

    private static boolean registersFit(int op, int a, int b, int c) {
        if (!isRegister(a)) {
            return false;
        }
        return !isArithmetic(op) || (isRegister(b) && isRegister(c));
    }

    private boolean targetFits(int p, int op, int b, int n) {
        if (op == FORK) {
            return n > lengths[p] && n <= PLACES;
        }
        if (op == CALL) {
            return isDeclared(n) && b + parameterCounts[n] <= REGISTERS;
        }
        return true;
    }

    private void forgetRun() {
        lastOutcome = NONE;
        lastResult = 0;
        stepCount = 0;
        outCount = 0;
    }

    private void beginFirstActivation(int x, int y, int z) {
        activations = 0;
        addActivation(0, 0);
        int count = parameterCounts[0];
        if (count > 0) {
            registers[0] = x;
        }
        if (count > 1) {
            registers[1] = y;
        }
        if (count > 2) {
            registers[2] = z;
        }
    }

    private void addActivation(int p, int resultRegister) {
        int top = activations;
        activeProcedures[top] = p;
        activePositions[top] = 0;
        resultRegisters[top] = resultRegister;
        for (int i = 0; i < REGISTERS; i++) {
            registers[top * REGISTERS + i] = 0;
        }
        activations = top + 1;
    }

    private void makeMove() {
        int top = activations - 1;
        int p = activeProcedures[top];
        int position = activePositions[top];
        if (position >= lengths[p]) {
            endActivation(0);
            return;
        }
        int place = p * PLACES + position;
        if (stepCount >= STEPS) {
            lastOutcome = TIRED;
        } else if (operations[place] == CALL && activations >= ACTIVATIONS) {
            lastOutcome = DEEP;
        } else {
            stepCount++;
            activePositions[top] = position + 1;
            carryOut(place, top);
        }
    }

    private void carryOut(int place, int top) {
        int base = top * REGISTERS;
        int a = base + numbersA[place];
        int op = operations[place];
        if (isArithmetic(op)) {
            int left = registers[base + numbersB[place]];
            int right = registers[base + numbersC[place]];
            registers[a] = compute(op, left, right);
        } else if (op == SET) {
            registers[a] = numbersN[place];
        } else if (op == FORK) {
            if (registers[a] == 0) {
                activePositions[top] = numbersN[place];
            }
        } else if (op == CALL) {
            callProcedure(numbersN[place], base + numbersB[place], a);
        } else if (op == OUT) {
            putOut(registers[a]);
        } else {
            endActivation(registers[a]);
        }
    }

    private static int compute(int op, int left, int right) {
        if (op == ADD) {
            return left + right;
        }
        if (op == SUB) {
            return left - right;
        }
        return left < right ? 1 : 0;
    }

    private void callProcedure(int p, int firstRegister, int resultRegister) {
        int base = activations * REGISTERS;
        addActivation(p, resultRegister);
        for (int i = 0; i < parameterCounts[p]; i++) {
            registers[base + i] = registers[firstRegister + i];
        }
    }

    private void putOut(int value) {
        if (outCount < KEPT_OUTS) {
            keptOuts[outCount] = value;
        }
        outCount++;
    }

    private void endActivation(int value) {
        activations--;
        if (activations == 0) {
            lastOutcome = DONE;
            lastResult = value;
        } else {
            registers[resultRegisters[activations]] = value;
        }
    }

    private void findWhatMatters() {
        // The least collection is grown from nothing, so what an earlier program left must go.
        matteringResults = 1;
        for (int i = 0; i < ALL_POSITIONS; i++) {
            liveBefore[i] = 0;
        }
        for (int round = 0; round < ROUNDS; round++) {
            for (int p = 0; p < declared; p++) {
                traceProcedure(p);
            }
        }
    }

    private void traceProcedure(int p) {
        // No activation goes on at an earlier position, so one pass from the end sees every successor first.
        for (int k = lengths[p] - 1; k >= 0; k--) {
            int place = p * PLACES + k;
            int live = liveAfter(p, k);
            int reads = readsThatMatter(p, place, live);
            if (operations[place] == CALL && hasBit(live, numbersA[place])) {
                matteringResults |= 1 << numbersN[place];
            }
            liveBefore[p * POSITIONS + k] = reads | (live & ~registersSet(place));
        }
    }

    private int liveAfter(int p, int k) {
        int place = p * PLACES + k;
        int first = p * POSITIONS;
        int next = liveBefore[first + k + 1];
        if (operations[place] == BACK) {
            return 0;
        }
        if (operations[place] == FORK) {
            return next | liveBefore[first + numbersN[place]];
        }
        return next;
    }

    private int readsThatMatter(int p, int place, int live) {
        int op = operations[place];
        int a = 1 << numbersA[place];
        if (isArithmetic(op)) {
            boolean needed = (live & a) != 0;
            return needed ? (1 << numbersB[place]) | (1 << numbersC[place]) : 0;
        }
        if (op == FORK || op == OUT) {
            return a;
        }
        if (op == BACK) {
            return hasBit(matteringResults, p) ? a : 0;
        }
        if (op == CALL) {
            return matteringParameters(numbersN[place]) << numbersB[place];
        }
        return 0;
    }

    private int registersSet(int place) {
        int op = operations[place];
        boolean sets = op == SET || op == CALL || isArithmetic(op);
        return sets ? 1 << numbersA[place] : 0;
    }

    private int matteringParameters(int p) {
        int itsParameters = (1 << parameterCounts[p]) - 1;
        return liveBefore[p * POSITIONS] & itsParameters;
    }

    private boolean instructionMatters(int p, int k) {
        int place = p * PLACES + k;
        int op = operations[place];
        if (op == SET || isArithmetic(op)) {
            int live = liveAfter(p, k);
            return hasBit(live, numbersA[place]);
        }
        return true;
    }
}
