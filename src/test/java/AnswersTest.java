/** Promises 8 to 14: the calls that only answer. */
public final class AnswersTest {
    private static final Check CHECK = new Check();
    private static final int MOST = Integer.MAX_VALUE;
    private static final int LEAST = Integer.MIN_VALUE;
    private static final int[] NO_NUMBERS = {-1, 24, 31, 32, 33, 64, MOST, LEAST};

    public static void main(String[] args) {
        promise8Passes();
        promise9Killers();
        promise10Killed();
        promise11Output();
        promise12Length();
        promise13Enough();
        promise13EnoughAtTheEdges();
        promise13EnoughIsNotGreedy();
        promise14Same();
        promise14SameAtTheEdges();
        answersChangeNothing();
        CHECK.end();
    }

    /** Doubles R[0] once, and on while it is less than R[1]. */
    private static MutantLab doubler() {
        return Ops.program(Ops.row(Ops.ADD, 0, 0, 0), Ops.row(Ops.JLT, 0, 1, 0));
    }

    private static void promise8Passes() {
        MutantLab lab = doubler();
        lab.test(3, 3, 6);
        lab.test(3, 3, 3);
        lab.test(3, 20, 24);
        lab.snapshotTest(0, 1);
        lab.test(0, 1, 0);
        boolean[] due = {true, false, true, true, false};
        for (int t = 0; t < due.length; t++) {
            CHECK.due("passes(" + t + ")", lab.passes(t), due[t]);
        }
        CHECK.due("passes(5)", lab.passes(5), false);
        for (int t : NO_NUMBERS) {
            CHECK.due("passes(" + t + ")", lab.passes(t), false);
        }
        lab.mutateOp(0, Ops.SUB);
        CHECK.due("passes(0) with a mutant", lab.passes(0), true);
        lab.emit(Ops.INC, 0, -3);
        CHECK.due("passes(0), longer", lab.passes(0), false);
        CHECK.due("passes(1), longer", lab.passes(1), true);
    }

    private static void promise9Killers() {
        MutantLab lab = Ops.program(Ops.row(Ops.ADD, 0, 1, 0));
        lab.mutateOp(0, Ops.MUL);
        CHECK.due("killers(0) without tests", lab.killers(0), 0);
        lab.test(2, 2, 4);
        lab.test(2, 3, 5);
        lab.test(0, 0, 0);
        lab.test(2, 3, 6);
        lab.snapshotTest(1, 1);
        lab.snapshotTest(7, 0);
        lab.mutateOp(0, Ops.ADD);
        CHECK.due("killers(0)", lab.killers(0), 2 + 16 + 32);
        CHECK.due("killers(1), of a test that the program fails too", lab.killers(1), 8);
        CHECK.due("killers(2)", lab.killers(2), MutantLab.NO_MUTANT);
        for (int m : NO_NUMBERS) {
            CHECK.due("killers(" + m + ")", lab.killers(m), MutantLab.NO_MUTANT);
        }
    }

    private static void promise10Killed() {
        MutantLab lab = Ops.program(Ops.row(Ops.ADD, 0, 1, 0));
        CHECK.due("killed(63) without all", lab.killed(63), 0);
        lab.mutateOp(0, Ops.SUB);
        lab.mutateOp(0, Ops.MUL);
        lab.mutateOp(0, Ops.ADD);
        lab.mutateOp(0, Ops.MIN);
        CHECK.due("killed(-1) without tests", lab.killed(-1), 0);
        lab.snapshotTest(2, 2);
        lab.snapshotTest(7, 0);
        lab.snapshotTest(0, 0);
        // SUB by 0, MUL by 1, ADD by none, MIN by 0 and 1.
        CHECK.due("killers(0)", lab.killers(0), 1);
        CHECK.due("killers(1)", lab.killers(1), 2);
        CHECK.due("killers(2)", lab.killers(2), 0);
        CHECK.due("killers(3)", lab.killers(3), 3);
        int[] due = {0, 2, 2, 3, 0, 2, 2, 3};
        for (int set = 0; set < 8; set++) {
            CHECK.due("killed(" + set + ")", lab.killed(set), due[set]);
            CHECK.due("killed(" + (set | 8) + ")", lab.killed(set | 8), due[set]);
            CHECK.due("killed(" + (set | ~7) + ")", lab.killed(set | ~7), due[set]);
            CHECK.due("killed(" + (set | LEAST) + ")", lab.killed(set | LEAST), due[set]);
            CHECK.due("killed(" + (set | 64) + ")", lab.killed(set | 64), due[set]);
        }
        // A test dropped by clear does not count any more, though its bit is set.
        lab.clear();
        lab.mutateOp(0, Ops.SUB);
        lab.snapshotTest(0, 0);
        CHECK.due("killed(-1) after clear", lab.killed(-1), 0);
    }

    private static void promise11Output() {
        MutantLab lab = doubler();
        lab.test(3, 20, 0);
        lab.snapshotTest(0, 1);
        lab.test(-5, 0, 0);
        lab.mutateOp(0, Ops.MUL);
        lab.mutateC(1, -1);
        lab.mutateC(1, 1);
        int[][] due = {{81, 0, 25}, {6, 0, -10}, {0, 0, 0}};
        for (int m = 0; m < 3; m++) {
            for (int t = 0; t < 3; t++) {
                CHECK.due("output(" + m + ", " + t + ")", lab.output(m, t), due[m][t]);
            }
            CHECK.due("output(" + m + ", 3)", lab.output(m, 3), 0);
            for (int t : NO_NUMBERS) {
                CHECK.due("output(" + m + ", " + t + ")", lab.output(m, t), 0);
            }
        }
        CHECK.due("output(3, 0)", lab.output(3, 0), 0);
        for (int m : NO_NUMBERS) {
            CHECK.due("output(" + m + ", 0)", lab.output(m, 0), 0);
            CHECK.due("output(" + m + ", -1)", lab.output(m, -1), 0);
        }
        // A stopped run has no output, whatever stands in R[0].
        MutantLab stopped = Ops.program(Ops.row(Ops.SET, 0, 0, 5), Ops.row(Ops.JZ, 1, 0, 2));
        stopped.test(1, 0, 5);
        stopped.mutateC(1, 1);
        CHECK.due("stopped: output(0, 0)", stopped.output(0, 0), 0);
        CHECK.due("stopped: length(0, 0)", stopped.length(0, 0), 100);
    }

    private static void promise12Length() {
        MutantLab lab = doubler();
        lab.test(3, 20, 0);
        lab.test(0, 1, 0);
        lab.test(-5, 0, 0);
        lab.mutateOp(0, Ops.MUL);
        lab.mutateC(1, -1);
        lab.mutateC(1, 1);
        lab.mutateOp(1, Ops.JLT);
        // The last 58: -5 doubled 29 times wraps to a number above 0.
        int[][] due = {{4, 100, 2}, {2, 2, 2}, {100, 100, 100}, {6, 100, 58}};
        for (int m = 0; m < 4; m++) {
            for (int t = 0; t < 3; t++) {
                CHECK.due("length(" + m + ", " + t + ")", lab.length(m, t), due[m][t]);
            }
            CHECK.due("length(" + m + ", 3)", lab.length(m, 3), MutantLab.NO_TEST);
            for (int t : NO_NUMBERS) {
                CHECK.due("length(" + m + ", " + t + ")", lab.length(m, t), MutantLab.NO_TEST);
            }
        }
        CHECK.due("length(4, 0)", lab.length(4, 0), MutantLab.NO_MUTANT);
        for (int m : NO_NUMBERS) {
            CHECK.due("length(" + m + ", 0)", lab.length(m, 0), MutantLab.NO_MUTANT);
        }
        // A jump as first instruction, out of the program: one step, not none.
        MutantLab out = Ops.program(Ops.row(Ops.JZ, 1, 0, 0));
        out.test(5, 0, 5);
        out.mutateC(0, -1);
        CHECK.due("out at once: length(0, 0)", out.length(0, 0), 1);
        CHECK.due("out at once: output(0, 0)", out.output(0, 0), 5);
    }

    /**
     * R[0] becomes the product of y - 1 to y - 6. Test t has y = t + 1 and
     * expects 0, which factor t alone gives it; so the tests that kill a mutant
     * are those whose factors it loses.
     */
    private static MutantLab factors() {
        MutantLab lab = new MutantLab();
        for (int t = 0; t < 6; t++) {
            lab.emit(Ops.INC, Ops.regs(1, 0), -1);
            lab.emit(Ops.MUL, Ops.regs(0, 1), 12);
        }
        return lab;
    }

    private static void addFactorTests(MutantLab lab, int count) {
        for (int t = 0; t < count; t++) {
            lab.test(1, t + 1, 0);
        }
    }

    /** Adds the mutant that just the tests from 'first' to 'last' kill: its factors jump over theirs. */
    private static void lose(MutantLab lab, int first, int last) {
        int mutant = lab.mutateC(2 * first, first - last - 2);
        int mask = (2 << last) - (1 << first);
        CHECK.due("factors " + first + " to " + last + ": killers", lab.killers(mutant), mask);
    }

    private static void promise13Enough() {
        MutantLab lab = factors();
        addFactorTests(lab, 6);
        for (int t = 0; t < 6; t++) {
            lose(lab, t, t);
            CHECK.due("each test needed, " + (t + 1) + ": enough()", lab.enough(), t + 1);
        }
        lose(lab, 0, 5);
        CHECK.due("and one that all kill: enough()", lab.enough(), 6);
        lab.clear();
        addFactorTests(lab, 6);
        lose(lab, 0, 2);
        lose(lab, 2, 4);
        CHECK.due("one in common: enough()", lab.enough(), 1);
        lose(lab, 4, 5);
        CHECK.due("a chain of three: enough()", lab.enough(), 2);
        lose(lab, 5, 5);
        CHECK.due("and its end: enough()", lab.enough(), 2);
        lose(lab, 3, 3);
        CHECK.due("and its midst: enough()", lab.enough(), 3);
    }

    private static void promise13EnoughAtTheEdges() {
        MutantLab lab = factors();
        addFactorTests(lab, 6);
        CHECK.due("without mutants: enough()", lab.enough(), 0);
        lab.mutateC(1, 5);
        lab.mutateC(3, 5);
        CHECK.due("with mutants that none kills: enough()", lab.enough(), 0);
        lose(lab, 1, 1);
        CHECK.due("with one besides: enough()", lab.enough(), 1);
        lose(lab, 1, 1);
        CHECK.due("with its twin: enough()", lab.enough(), 1);
        lab.clear();
        lab.mutateC(0, -2);
        lab.mutateC(0, 99);
        CHECK.due("without tests: enough()", lab.enough(), 0);
        lab.test(1, 1, 0);
        CHECK.due("with one test: enough()", lab.enough(), 1);
        // 24 mutants, the last one alone in needing test 5.
        lab.clear();
        addFactorTests(lab, 6);
        for (int m = 0; m < 23; m++) {
            lab.mutateC(0, -2);
        }
        CHECK.due("23 alike: enough()", lab.enough(), 1);
        lose(lab, 5, 5);
        CHECK.due("and a last one: enough()", lab.enough(), 2);
    }

    /** Test 2 kills the most, but whoever takes it needs three. */
    private static void promise13EnoughIsNotGreedy() {
        MutantLab lab = factors();
        addFactorTests(lab, 6);
        lose(lab, 1, 2);
        lose(lab, 1, 2);
        lose(lab, 2, 4);
        lose(lab, 2, 4);
        lose(lab, 0, 1);
        lose(lab, 4, 5);
        CHECK.due("killed by test 2", lab.killed(4), 4);
        CHECK.due("killed by test 1", lab.killed(2), 3);
        CHECK.due("killed by tests 1 and 4", lab.killed(18), 6);
        CHECK.due("not greedy: enough()", lab.enough(), 2);
    }

    private static void promise14Same() {
        MutantLab lab = Ops.program(Ops.row(Ops.ADD, 0, 1, 0));
        lab.mutateOp(0, Ops.ADD);
        lab.mutateOp(0, Ops.SUB);
        lab.mutateOp(0, Ops.MUL);
        lab.mutateC(0, 40);
        CHECK.due("without tests: same()", lab.same(), 4);
        lab.test(0, 0, 0);
        CHECK.due("on 0, 0: same()", lab.same(), 4);
        // What a test expects does not matter here.
        lab.test(2, 2, -1);
        CHECK.due("and on 2, 2: same()", lab.same(), 3);
        CHECK.due("and on 2, 2: killed(2)", lab.killed(2), 4);
        lab.test(5, 0, 0);
        CHECK.due("and on 5, 0: same()", lab.same(), 2);
        lab.test(0, 0, 9);
        CHECK.due("and on 0, 0 again: same()", lab.same(), 2);
    }

    private static void promise14SameAtTheEdges() {
        MutantLab none = new MutantLab();
        none.test(0, 0, 0);
        CHECK.due("without mutants: same()", none.same(), 0);
        // The program has no output where R[1] is 0; R[0] differs there, but is none.
        MutantLab lab = Ops.program(Ops.row(Ops.INC, 0, 0, 1), Ops.row(Ops.JZ, 1, 0, 1));
        lab.mutateC(0, 2);
        lab.test(3, 0, 8);
        CHECK.due("like it, none: same()", lab.same(), 1);
        // This one ends with 0, which is not none.
        lab.mutateC(1, 2);
        lab.test(-1, 0, 8);
        CHECK.due("none against 0: same()", lab.same(), 1);
        lab.test(3, 1, 8);
        CHECK.due("4 against 5: same()", lab.same(), 0);
        // And the other way about: the program ends with 0, the mutant is stopped.
        MutantLab ends = Ops.program(Ops.row(Ops.JZ, 0, 0, 1));
        ends.mutateC(0, 0);
        ends.test(0, 0, 0);
        CHECK.due("0 against none: same()", ends.same(), 0);
        MutantLab many = Ops.program(Ops.row(Ops.INC, 0, 0, 1));
        for (int m = 0; m < 24; m++) {
            many.mutateC(0, m);
        }
        CHECK.due("24 without tests: same()", many.same(), 24);
        // Only the last of six tests tells the mutants apart from the program.
        MutantLab last = Ops.program(Ops.row(Ops.MUL, 0, 1, 0));
        last.mutateOp(0, Ops.ADD);
        for (int t = 0; t < 5; t++) {
            last.test(2, 2, 4);
        }
        CHECK.due("five tests: same()", last.same(), 1);
        last.test(2, 3, 6);
        CHECK.due("six tests: same()", last.same(), 0);
    }

    /** Each call is asked for twice, with all the others between. */
    private static void answersChangeNothing() {
        MutantLab lab = factors();
        addFactorTests(lab, 5);
        lab.snapshotTest(1, 6);
        lose(lab, 1, 2);
        lose(lab, 4, 5);
        lab.mutateOp(1, Ops.JLT);
        long before = digest(lab);
        CHECK.due("the answers once more", digest(lab), before);
        CHECK.due("and again", digest(lab), before);
        CHECK.due("then test", lab.test(0, 0, 0), MutantLab.FULL);
        CHECK.due("then mutateC", lab.mutateC(0, 0), 3);
        CHECK.due("then emit", lab.emit(0, 0, 0), MutantLab.FULL);
    }

    private static long digest(MutantLab lab) {
        long sum = lab.enough();
        for (int m = -1; m <= 3; m++) {
            sum = 31 * sum + lab.killers(m);
            for (int t = -1; t <= 6; t++) {
                sum = 31 * sum + lab.output(m, t);
                sum = 31 * sum + lab.length(m, t);
            }
        }
        for (int t = -1; t <= 6; t++) {
            sum = 31 * sum + (lab.passes(t) ? 1 : 0);
        }
        for (int set = 0; set < 64; set++) {
            sum = 31 * sum + lab.killed(set);
        }
        return 31 * sum + lab.same();
    }
}
