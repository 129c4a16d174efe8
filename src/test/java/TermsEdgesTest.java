/** The edges that the section Terms names; each method quotes its sentence. RunTest has the rest of that section. */
public final class TermsEdgesTest {
    private static final Check CHECK = new Check();
    private static final int MOST = Integer.MAX_VALUE;
    private static final int LEAST = Integer.MIN_VALUE;

    public static void main(String[] args) {
        everyRegisterWraps();
        wrapsBeforeItIsCompared();
        registersAreNamedByTwoBits();
        endsBehindTheLastInstruction();
        endsWhereAJumpLeavesTheProgram();
        endsAtOnceWithoutInstructions();
        stoppedOnlyAfterAHundred();
        theHundredthMayLeaveTheProgram();
        longerByAStepThanAHundred();
        atMostTwelveSixAndTwentyFour();
        bitsOfTestsThatDoNotExist();
        theLastOf512Calls();
        CHECK.end();
    }

    /** The run's length, asked through a mutant with the same op. */
    private static int lengthOf(int x, int y, int[]... rows) {
        MutantLab lab = Ops.program(rows);
        lab.test(x, y, 0);
        lab.mutateOp(0, rows[0][0]);
        return lab.length(0, 0);
    }

    /** "four registers (ints that wrap)" */
    private static void everyRegisterWraps() {
        for (int a = 0; a < 4; a++) {
            wrapsTo(a, MOST, Ops.ADD, 1, 0, LEAST);
            wrapsTo(a, LEAST, Ops.ADD, LEAST, 0, 0);
            wrapsTo(a, LEAST, Ops.SUB, 1, 0, MOST);
            wrapsTo(a, 0, Ops.SUB, LEAST, 0, LEAST);
            wrapsTo(a, MOST, Ops.MUL, 2, 0, -2);
            wrapsTo(a, 65536, Ops.MUL, 65536, 0, 0);
            wrapsTo(a, LEAST, Ops.MUL, -1, 0, LEAST);
            wrapsTo(a, MOST, Ops.INC, 0, 1, LEAST);
            wrapsTo(a, LEAST, Ops.INC, 0, -1, MOST);
            wrapsTo(a, MOST, Ops.INC, 0, MOST, -2);
        }
    }

    /** Takes the due number away and leaves if that gives 0: only registers that wrap are at 0 then. */
    private static void wrapsTo(int a, int from, int op, int with, int c, int due) {
        int b = (a + 1) & 3;
        int length = lengthOf(0, 0,
            Ops.row(Ops.SET, a, 0, from), Ops.row(Ops.SET, b, 0, with), Ops.row(op, a, b, c),
            Ops.row(Ops.SET, b, 0, due), Ops.row(Ops.SUB, a, b, 0), Ops.row(Ops.JZ, a, 0, -1),
            Ops.row(Ops.SET, 0, 0, 0));
        CHECK.due("R[" + a + "] = " + from + ", then op " + op + " with " + with + " and " + c, length, 6);
    }

    /** "four registers (ints that wrap)", where JLT, MIN and the input's registers meet them. */
    private static void wrapsBeforeItIsCompared() {
        int[] up = Ops.row(Ops.INC, 0, 0, 1);
        CHECK.due("MOST + 1 < 0", lengthOf(MOST, 0, up, Ops.row(Ops.JLT, 0, 1, -1), up), 2);
        int[] down = Ops.row(Ops.INC, 1, 0, -1);
        CHECK.due("0 < LEAST - 1", lengthOf(0, LEAST, down, Ops.row(Ops.JLT, 0, 1, -1), up), 2);
        MutantLab lab = Ops.program(up, Ops.row(Ops.MIN, 0, 1, 0));
        lab.test(MOST, 5, LEAST);
        CHECK.due("the smaller of MOST + 1 and 5 is LEAST", lab.passes(0), true);
        MutantLab twice = Ops.program(Ops.row(Ops.ADD, 0, 0, 0), Ops.row(Ops.MUL, 1, 1, 0), Ops.row(Ops.ADD, 0, 1, 0));
        twice.test(MOST, 65536, -2);
        CHECK.due("a register with itself", twice.passes(0), true);
    }

    /** "a, b (registers, named by their two lowest bits)" */
    private static void registersAreNamedByTwoBits() {
        int[] others = {16, 32, 16 * 12345, LEAST, MOST - 15, -16};
        for (int low = 0; low < 16; low++) {
            int[] after = {1, 10, 100, 1000};
            after[low & 3] += after[low >> 2];
            for (int other : others) {
                for (int r = 0; r < 4; r++) {
                    String what = "after ADD with regs " + (other | low) + ": R[" + r + "] is " + after[r];
                    CHECK.holds(what, addLeaves(other | low, r, after[r]));
                }
            }
        }
    }

    /** Whether ADD on registers that hold 1, 10, 100, 1000 leaves the due number in R[r]. */
    private static boolean addLeaves(int regs, int r, int due) {
        MutantLab lab = Ops.program(Ops.row(Ops.SET, 2, 0, 100), Ops.row(Ops.SET, 3, 0, 1000));
        lab.emit(Ops.ADD, regs, 0);
        if (r != 0) {
            lab.emit(Ops.SET, 0, 0);
            lab.emit(Ops.ADD, Ops.regs(0, r), 0);
        }
        lab.test(1, 10, due);
        return lab.passes(0);
    }

    /** "It ENDS when the next instruction's number is not that of an instruction": the number behind the last. */
    private static void endsBehindTheLastInstruction() {
        for (int count = 1; count <= 12; count++) {
            MutantLab lab = new MutantLab();
            Labs.addPowers(lab, 0, count);
            lab.test(0, 0, (1 << count) - 1);
            lab.mutateOp(count - 1, Ops.INC);
            CHECK.due(count + " instructions: passes(0)", lab.passes(0), true);
            CHECK.due(count + " instructions: length(0, 0)", lab.length(0, 0), count);
        }
    }

    /** The same sentence: a number that a jump gives, below 0 or too large for a program of each length. */
    private static void endsWhereAJumpLeavesTheProgram() {
        for (int count = 1; count <= 12; count++) {
            int[] outside = {-1, LEAST, count, count + 1, 12, 13, MOST};
            for (int place : outside) {
                jumpGives(count, place, 5, 1);
            }
            if (count > 1) {
                jumpGives(count, count - 1, 5 + (1 << (count - 1)), 2);
            }
        }
    }

    /** The first of 'count' instructions jumps; those behind it would change the output. */
    private static void jumpGives(int count, int place, int output, int length) {
        String what = count + " instructions, a jump to " + place;
        MutantLab lab = Ops.program(Ops.row(Ops.JZ, 2, 0, place));
        Labs.addPowers(lab, 1, count);
        lab.test(5, 0, output);
        lab.mutateOp(0, Ops.JZ);
        CHECK.due(what + ": passes(0)", lab.passes(0), true);
        CHECK.due(what + ": killers(0)", lab.killers(0), 0);
        CHECK.due(what + ": output(0, 0)", lab.output(0, 0), output);
        CHECK.due(what + ": length(0, 0)", lab.length(0, 0), length);
    }

    /** "(also at once, without instructions); its OUTPUT is then R[0]" */
    private static void endsAtOnceWithoutInstructions() {
        int[] xs = {0, 1, -1, MOST, LEAST};
        for (int x : xs) {
            MutantLab lab = new MutantLab();
            lab.test(x, 3, x);
            lab.test(x, 3, x + 1);
            lab.snapshotTest(x, 3);
            CHECK.due("no instructions, x " + x + ": passes(0)", lab.passes(0), true);
            CHECK.due("no instructions, x " + x + ": passes(1)", lab.passes(1), false);
            CHECK.due("no instructions, x " + x + ": passes(2)", lab.passes(2), true);
            // The snapshot is of the output x, not of no output nor of what comes later.
            lab.emit(Ops.INC, 0, 1);
            CHECK.due("one more, x " + x + ": passes(1)", lab.passes(1), true);
            CHECK.due("one more, x " + x + ": passes(2)", lab.passes(2), false);
            lab.emit(Ops.INC, 0, -1);
            CHECK.due("two more, x " + x + ": passes(2)", lab.passes(2), true);
        }
    }

    /** "If it has carried out 100 instructions and has not ended, it is stopped: it has NO OUTPUT." */
    private static void stoppedOnlyAfterAHundred() {
        for (int steps = 95; steps <= 105; steps++) {
            // y rounds of two steps, after which one step more may stand.
            MutantLab lab = Ops.program(Ops.row(Ops.INC, 0, 0, 1), Ops.row(Ops.JLT, 0, 1, 0));
            if (steps % 2 == 1) {
                lab.emit(Ops.INC, 0, 0);
            }
            int y = steps / 2;
            boolean ends = steps <= 100;
            lab.test(0, y, y);
            lab.test(0, y, 0);
            lab.snapshotTest(0, y);
            lab.mutateC(0, 1);
            CHECK.due(steps + " steps: passes(0)", lab.passes(0), ends);
            CHECK.due(steps + " steps: passes(1)", lab.passes(1), false);
            CHECK.due(steps + " steps: passes(2)", lab.passes(2), true);
            CHECK.due(steps + " steps: killers(0)", lab.killers(0), ends ? 2 : 3);
            CHECK.due(steps + " steps: output(0, 0)", lab.output(0, 0), ends ? y : 0);
            CHECK.due(steps + " steps: length(0, 0)", lab.length(0, 0), ends ? steps : 100);
        }
    }

    /** The same sentence: whether a run has ended is asked of where the hundredth step leads, not of the steps. */
    private static void theHundredthMayLeaveTheProgram() {
        // 49 rounds of two steps, one step more, and a jump as the hundredth.
        MutantLab lab = Ops.program(Ops.row(Ops.INC, 0, 0, 1), Ops.row(Ops.JLT, 0, 1, 0),
            Ops.row(Ops.INC, 3, 0, 0), Ops.row(Ops.JZ, 2, 0, -1));
        lab.snapshotTest(0, 49);
        int[] outside = {-1, -2, LEAST, 4, 5, 12, 99, 100, MOST};
        for (int place : outside) {
            hundredthLeadsTo(lab, place, true);
        }
        for (int place = 0; place < 4; place++) {
            hundredthLeadsTo(lab, place, false);
        }
        CHECK.due("those that end: same()", lab.same(), outside.length);
        CHECK.due("those that do not: killed(1)", lab.killed(1), 4);
    }

    private static void hundredthLeadsTo(MutantLab lab, int place, boolean ends) {
        String what = "the hundredth leads to " + place;
        int mutant = lab.mutateC(3, place);
        CHECK.due(what + ": output", lab.output(mutant, 0), ends ? 49 : 0);
        CHECK.due(what + ": length", lab.length(mutant, 0), 100);
        CHECK.due(what + ": killers", lab.killers(mutant), ends ? 0 : 1);
    }

    /** The same sentence, where an instruction more makes a run of a hundred steps one that is stopped. */
    private static void longerByAStepThanAHundred() {
        MutantLab lab = Ops.program(Ops.row(Ops.INC, 0, 0, 1), Ops.row(Ops.JLT, 0, 1, 0));
        lab.snapshotTest(0, 50);
        lab.mutateC(0, 1);
        lab.mutateC(0, 2);
        lab.mutateC(0, 0);
        holdsAround("100 steps", lab, true, new int[] {50, 50, 0}, new int[] {100, 50, 100}, new int[] {0, 0, 1});
        CHECK.due("100 steps: same()", lab.same(), 2);
        lab.emit(Ops.INC, 0, 0);
        holdsAround("101 steps", lab, false, new int[] {0, 50, 0}, new int[] {100, 51, 100}, new int[] {1, 0, 1});
        // The first and the last, which have none like the program.
        CHECK.due("101 steps: same()", lab.same(), 2);
    }

    private static void holdsAround(
            String what, MutantLab lab, boolean passes, int[] outputs, int[] lengths, int[] killers) {
        CHECK.due(what + ": passes(0)", lab.passes(0), passes);
        for (int m = 0; m < outputs.length; m++) {
            CHECK.due(what + ": output(" + m + ", 0)", lab.output(m, 0), outputs[m]);
            CHECK.due(what + ": length(" + m + ", 0)", lab.length(m, 0), lengths[m]);
            CHECK.due(what + ": killers(" + m + ")", lab.killers(m), killers[m]);
        }
    }

    /** "at most 12 INSTRUCTIONS, numbered from 0", "TESTS (at most six) and MUTANTS (at most 24) are numbered from 0" */
    private static void atMostTwelveSixAndTwentyFour() {
        MutantLab lab = new MutantLab();
        for (int i = 0; i < 30; i++) {
            CHECK.due("emit, time " + i, lab.emit(Ops.INC, 0, 1), i < 12 ? i : MutantLab.FULL);
        }
        for (int i = 0; i < 30; i++) {
            CHECK.due("test, time " + i, lab.test(i, 0, 12 + i), i < 6 ? i : MutantLab.FULL);
        }
        for (int i = 0; i < 30; i++) {
            CHECK.due("mutateC, time " + i, lab.mutateC(i % 12, 2), i < 24 ? i : MutantLab.FULL);
        }
        // All of them are kept: each test kills each mutant, and is passed.
        for (int t = 0; t < 6; t++) {
            CHECK.due("all kept: passes(" + t + ")", lab.passes(t), true);
            CHECK.due("all kept: killed by test " + t, lab.killed(1 << t), 24);
        }
    }

    /** "A set of tests is a mask, bit t for test t; bits of tests that don't exist don't count." */
    private static void bitsOfTestsThatDoNotExist() {
        for (int count = 0; count <= 6; count++) {
            MutantLab lab = Ops.program(Ops.row(Ops.INC, 0, 0, 1));
            // First six tests that kill, of which clear must leave nothing.
            for (int t = 0; t < 6; t++) {
                lab.snapshotTest(t, 0);
            }
            lab.clear();
            for (int t = 0; t < count; t++) {
                lab.snapshotTest(t, 0);
            }
            lab.mutateC(0, 2);
            String tests = count + " tests: ";
            int all = (1 << count) - 1;
            for (int bit = 0; bit < 32; bit++) {
                CHECK.due(tests + "killed by bit " + bit, lab.killed(1 << bit), bit < count ? 1 : 0);
            }
            CHECK.due(tests + "killed by no bit", lab.killed(0), 0);
            CHECK.due(tests + "killed by all other bits", lab.killed(~all), 0);
            CHECK.due(tests + "killed by every bit", lab.killed(-1), count > 0 ? 1 : 0);
            CHECK.due(tests + "killers(0)", lab.killers(0), all);
        }
    }

    /** "An object is used for at most 512 calls after it has been made" */
    private static void theLastOf512Calls() {
        MutantLab lab = new MutantLab();
        lab.emit(Ops.INC, 0, 1);
        for (int round = 0; round < 127; round++) {
            lab.snapshotTest(round, 0);
            lab.mutateC(0, 2);
            CHECK.due("round " + round + ": killed(1)", lab.killed(1), 1);
            lab.clear();
        }
        // 509 calls so far.
        CHECK.due("call 510: mutateC", lab.mutateC(0, 5), 0);
        CHECK.due("call 511: test", lab.test(8, 0, 9), 0);
        CHECK.due("call 512: output", lab.output(0, 0), 13);
    }
}
