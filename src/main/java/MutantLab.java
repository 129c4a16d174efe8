/** Mutation testing of a small program. */
public final class MutantLab {
    public static final int BAD_OP = -1;
    public static final int FULL = -2;
    public static final int BAD_PLACE = -3;
    public static final int NO_MUTANT = -4;
    public static final int NO_TEST = -5;

    private static final int SET = 0;
    private static final int ADD = 1;
    private static final int SUB = 2;
    private static final int MUL = 3;
    private static final int MIN = 4;
    private static final int JLT = 5;
    private static final int JZ = 6;
    private static final int INC = 7;

    private static final int MAX_INSTRUCTIONS = 12;
    private static final int MAX_TESTS = 6;
    private static final int MAX_MUTANTS = 24;
    private static final int REGISTERS = 4;
    private static final int STEP_LIMIT = 100;

    // Stands where a mutant's number could stand, so that one method runs both.
    private static final int PROGRAM = -1;

    private final int[] ops = new int[MAX_INSTRUCTIONS];
    private final int[] firstRegisters = new int[MAX_INSTRUCTIONS];
    private final int[] secondRegisters = new int[MAX_INSTRUCTIONS];
    private final int[] constants = new int[MAX_INSTRUCTIONS];
    private int instructionCount = 0;

    private final int[] testXs = new int[MAX_TESTS];
    private final int[] testYs = new int[MAX_TESTS];
    private final boolean[] expectsOutput = new boolean[MAX_TESTS];
    private final int[] expectedOutputs = new int[MAX_TESTS];
    private int testCount = 0;

    // A mutant keeps both op and c of its changed instruction: an instruction
    // never changes once it is appended, so the copy of the other one stays true.
    private final int[] mutantPlaces = new int[MAX_MUTANTS];
    private final int[] mutantOps = new int[MAX_MUTANTS];
    private final int[] mutantConstants = new int[MAX_MUTANTS];
    private int mutantCount = 0;

    // What the latest run left behind; every call that reads it runs anew first.
    private final int[] registers = new int[REGISTERS];
    private boolean runEnded = false;
    private int runOutput = 0;
    private int runLength = 0;

    // Filled anew by each call of enough, so that each mutant is run only once there.
    private final int[] killerMasks = new int[MAX_MUTANTS];

    public MutantLab() {
    }

    public int emit(int op, int regs, int c) {
        if (!isOp(op)) {
            return BAD_OP;
        }
        if (instructionCount >= MAX_INSTRUCTIONS) {
            return FULL;
        }
        int place = instructionCount;
        ops[place] = op;
        firstRegisters[place] = regs & 3;
        secondRegisters[place] = (regs >> 2) & 3;
        constants[place] = c;
        instructionCount = place + 1;
        return place;
    }

    public int test(int x, int y, int expects) {
        return addTest(x, y, true, expects);
    }

    public int snapshotTest(int x, int y) {
        run(PROGRAM, x, y);
        return addTest(x, y, runEnded, runOutput);
    }

    public int mutateOp(int p, int op) {
        if (!isPlace(p)) {
            return BAD_PLACE;
        }
        if (!isOp(op)) {
            return BAD_OP;
        }
        return addMutant(p, op, constants[p]);
    }

    public int mutateC(int p, int c) {
        if (!isPlace(p)) {
            return BAD_PLACE;
        }
        return addMutant(p, ops[p], c);
    }

    public void clear() {
        testCount = 0;
        mutantCount = 0;
    }

    public boolean passes(int test) {
        return isTest(test) && meets(PROGRAM, test);
    }

    public int killers(int mutant) {
        if (!isMutant(mutant)) {
            return NO_MUTANT;
        }
        return killerMask(mutant);
    }

    public int killed(int tests) {
        int count = 0;
        for (int mutant = 0; mutant < mutantCount; mutant++) {
            if ((killerMask(mutant) & tests) != 0) {
                count++;
            }
        }
        return count;
    }

    public int output(int mutant, int test) {
        if (!isMutant(mutant) || !isTest(test)) {
            return 0;
        }
        run(mutant, testXs[test], testYs[test]);
        return runOutput;
    }

    public int length(int mutant, int test) {
        if (!isMutant(mutant)) {
            return NO_MUTANT;
        }
        if (!isTest(test)) {
            return NO_TEST;
        }
        run(mutant, testXs[test], testYs[test]);
        return runLength;
    }

    public int enough() {
        for (int mutant = 0; mutant < mutantCount; mutant++) {
            killerMasks[mutant] = killerMask(mutant);
        }
        // The set of all tests always does, so no set that is as large need be looked at.
        int least = testCount;
        for (int set = 0; set < 1 << testCount; set++) {
            int size = sizeOf(set);
            if (size < least && killsAllThatCanBe(set)) {
                least = size;
            }
        }
        return least;
    }

    public int same() {
        int count = 0;
        for (int mutant = 0; mutant < mutantCount; mutant++) {
            if (givesTheSame(mutant)) {
                count++;
            }
        }
        return count;
    }

    private boolean isOp(int op) {
        return op >= SET && op <= INC;
    }

    private boolean isPlace(int number) {
        return number >= 0 && number < instructionCount;
    }

    private boolean isTest(int number) {
        return number >= 0 && number < testCount;
    }

    private boolean isMutant(int number) {
        return number >= 0 && number < mutantCount;
    }

    private int addTest(int x, int y, boolean withOutput, int expected) {
        if (testCount >= MAX_TESTS) {
            return FULL;
        }
        int number = testCount;
        testXs[number] = x;
        testYs[number] = y;
        expectsOutput[number] = withOutput;
        expectedOutputs[number] = expected;
        testCount = number + 1;
        return number;
    }

    private int addMutant(int place, int op, int c) {
        if (mutantCount >= MAX_MUTANTS) {
            return FULL;
        }
        int number = mutantCount;
        mutantPlaces[number] = place;
        mutantOps[number] = op;
        mutantConstants[number] = c;
        mutantCount = number + 1;
        return number;
    }

    /** Runs a mutant or PROGRAM; runOutput is 0 if the run is stopped. */
    private void run(int mutant, int x, int y) {
        registers[0] = x;
        registers[1] = y;
        registers[2] = 0;
        registers[3] = 0;
        int next = 0;
        int steps = 0;
        while (steps < STEP_LIMIT && isPlace(next)) {
            boolean changed = mutant != PROGRAM && mutantPlaces[mutant] == next;
            int op = changed ? mutantOps[mutant] : ops[next];
            int c = changed ? mutantConstants[mutant] : constants[next];
            next = carryOut(next, op, c);
            steps++;
        }
        // Asked of the place, not of the steps: a run may end with its hundredth step.
        runEnded = !isPlace(next);
        runOutput = runEnded ? registers[0] : 0;
        runLength = steps;
    }

    /** Carries out the instruction at a place with the given op and c; answers where the run goes on. */
    private int carryOut(int place, int op, int c) {
        int a = firstRegisters[place];
        int b = secondRegisters[place];
        int next = place + 1;
        switch (op) {
            case SET:
                registers[a] = c;
                break;
            case ADD:
                registers[a] = registers[a] + registers[b];
                break;
            case SUB:
                registers[a] = registers[a] - registers[b];
                break;
            case MUL:
                registers[a] = registers[a] * registers[b];
                break;
            case MIN:
                registers[a] = registers[b] < registers[a] ? registers[b] : registers[a];
                break;
            case JLT:
                next = registers[a] < registers[b] ? c : next;
                break;
            case JZ:
                next = registers[a] == 0 ? c : next;
                break;
            default: // INC: no op outside 0 to 7 is ever kept
                registers[a] = registers[a] + c;
                break;
        }
        return next;
    }

    private boolean meets(int mutant, int test) {
        run(mutant, testXs[test], testYs[test]);
        // The outputs need no look at whether there is one: both are 0 without.
        return runEnded == expectsOutput[test] && runOutput == expectedOutputs[test];
    }

    private int killerMask(int mutant) {
        int mask = 0;
        for (int test = 0; test < testCount; test++) {
            if (!meets(mutant, test)) {
                mask |= 1 << test;
            }
        }
        return mask;
    }

    private boolean killsAllThatCanBe(int set) {
        for (int mutant = 0; mutant < mutantCount; mutant++) {
            if (killerMasks[mutant] != 0 && (killerMasks[mutant] & set) == 0) {
                return false;
            }
        }
        return true;
    }

    private int sizeOf(int set) {
        int size = 0;
        for (int test = 0; test < MAX_TESTS; test++) {
            size += (set >> test) & 1;
        }
        return size;
    }

    private boolean givesTheSame(int mutant) {
        for (int test = 0; test < testCount; test++) {
            run(PROGRAM, testXs[test], testYs[test]);
            boolean programEnded = runEnded;
            int programOutput = runOutput;
            run(mutant, testXs[test], testYs[test]);
            if (runEnded != programEnded || runOutput != programOutput) {
                return false;
            }
        }
        return true;
    }
}
