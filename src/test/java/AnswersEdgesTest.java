/** The edges that promises 8 to 14 name; each method quotes its sentence. AnswersTest has the rest of them. */
public final class AnswersEdgesTest {
    private static final Check CHECK = new Check();
    private static final int MOST = Integer.MAX_VALUE;
    private static final int LEAST = Integer.MIN_VALUE;
    private static final int[] NO_TESTS = {-1, -2, 6, 7, 31, 32, 33, MOST, LEAST};
    private static final int[] NO_MUTANTS = {-1, -2, 24, 25, 31, 32, 33, MOST, LEAST};

    public static void main(String[] args) {
        promise8NoSuchTest();
        promise9NoMutant();
        promise10NoneKilled();
        promise11NoSuchMutantOrTest();
        promise11NoOutput();
        promise12NoMutantNoTest();
        promise12AHundredIfStopped();
        promise13NoneIsEnough();
        promise13MoreTestsThanInstructions();
        promise14WithoutTests();
        promise14NoneLikeIt();
        CHECK.end();
    }

    /** Its tests are all passed and kill all of its mutants, so a test or mutant too many would show. */
    private static MutantLab passing(int tests, int mutants) {
        MutantLab lab = Ops.program(Ops.row(Ops.INC, 0, 0, 1));
        addPassing(lab, 6, 24);
        lab.clear();
        addPassing(lab, tests, mutants);
        return lab;
    }

    private static void addPassing(MutantLab lab, int tests, int mutants) {
        for (int t = 0; t < tests; t++) {
            lab.snapshotTest(10 + t, 0);
        }
        for (int m = 0; m < mutants; m++) {
            lab.mutateC(0, 2 + m);
        }
    }

    /** "false if there is no such test." */
    private static void promise8NoSuchTest() {
        for (int tests = 0; tests <= 6; tests++) {
            MutantLab lab = passing(tests, 1);
            for (int t = 0; t <= 6; t++) {
                CHECK.due(tests + " tests: passes(" + t + ")", lab.passes(t), t < tests);
            }
            for (int t : NO_TESTS) {
                CHECK.due(tests + " tests: passes(" + t + ")", lab.passes(t), false);
            }
        }
        // A test of zeros, as an unused one might be, would be passed here.
        MutantLab empty = new MutantLab();
        for (int t = 0; t <= 6; t++) {
            CHECK.due("no instructions: passes(" + t + ")", empty.passes(t), false);
        }
    }

    /** Promise 9: "NO_MUTANT." */
    private static void promise9NoMutant() {
        for (int mutants = 0; mutants <= 24; mutants++) {
            MutantLab lab = passing(6, mutants);
            for (int m = 0; m <= 24; m++) {
                int due = m < mutants ? 63 : MutantLab.NO_MUTANT;
                CHECK.due(mutants + " mutants: killers(" + m + ")", lab.killers(m), due);
            }
            for (int m : NO_MUTANTS) {
                CHECK.due(mutants + " mutants: killers(" + m + ")", lab.killers(m), MutantLab.NO_MUTANT);
            }
        }
        CHECK.due("no tests: killers(23)", passing(0, 24).killers(23), 0);
        CHECK.due("no tests: killers(24)", passing(0, 24).killers(24), MutantLab.NO_MUTANT);
    }

    /** "How many mutants the set of tests kills.": none, with an empty set, without tests, without mutants. */
    private static void promise10NoneKilled() {
        for (int mutants = 0; mutants <= 24; mutants++) {
            CHECK.due(mutants + " mutants, an empty set: killed(0)", passing(6, mutants).killed(0), 0);
            CHECK.due(mutants + " mutants, no tests: killed(63)", passing(0, mutants).killed(63), 0);
            CHECK.due(mutants + " mutants, all tests: killed(63)", passing(6, mutants).killed(63), mutants);
            CHECK.due(mutants + " mutants, one test: killed(32)", passing(6, mutants).killed(32), mutants);
        }
    }

    /** "0 if [..] there is no such mutant or test." */
    private static void promise11NoSuchMutantOrTest() {
        for (int count = 0; count <= 6; count++) {
            MutantLab lab = passing(count, 4 * count);
            String held = count + " tests, " + 4 * count + " mutants: output(";
            for (int m = 0; m <= 24; m++) {
                for (int t = 0; t <= 6; t++) {
                    int due = m < 4 * count && t < count ? 12 + m + t : 0;
                    CHECK.due(held + m + ", " + t + ")", lab.output(m, t), due);
                }
            }
            for (int m : NO_MUTANTS) {
                CHECK.due(held + m + ", 0)", lab.output(m, 0), 0);
                CHECK.due(held + m + ", -1)", lab.output(m, -1), 0);
            }
            for (int t : NO_TESTS) {
                CHECK.due(held + "0, " + t + ")", lab.output(0, t), 0);
            }
        }
        CHECK.due("no tests: output(0, 0)", passing(0, 1).output(0, 0), 0);
        CHECK.due("no mutants: output(0, 0)", passing(1, 0).output(0, 0), 0);
    }

    /** Promise 11: "0 if it has none" */
    private static void promise11NoOutput() {
        int[] outputs = {5, -5, MOST, LEAST};
        for (int x : outputs) {
            MutantLab lab = Ops.program(Ops.row(Ops.JZ, 1, 0, 1), Ops.row(Ops.INC, 0, 0, 0));
            lab.test(x, 0, x);
            lab.mutateC(0, 0);
            lab.mutateC(0, 2);
            CHECK.due("x " + x + ", stopped: output(0, 0)", lab.output(0, 0), 0);
            CHECK.due("x " + x + ", ended: output(1, 0)", lab.output(1, 0), x);
            CHECK.due("x " + x + ", stopped after one that ended: output(0, 0)", lab.output(0, 0), 0);
        }
    }

    /** Promise 12: "NO_MUTANT; NO_TEST." */
    private static void promise12NoMutantNoTest() {
        for (int count = 0; count <= 6; count++) {
            MutantLab lab = passing(count, 4 * count);
            String held = count + " tests, " + 4 * count + " mutants: length(";
            for (int m = 0; m <= 24; m++) {
                for (int t = 0; t <= 6; t++) {
                    int due = m >= 4 * count ? MutantLab.NO_MUTANT : t >= count ? MutantLab.NO_TEST : 1;
                    CHECK.due(held + m + ", " + t + ")", lab.length(m, t), due);
                }
            }
            for (int m : NO_MUTANTS) {
                CHECK.due(held + m + ", 0)", lab.length(m, 0), MutantLab.NO_MUTANT);
                CHECK.due(held + m + ", -1)", lab.length(m, -1), MutantLab.NO_MUTANT);
            }
            for (int t : NO_TESTS) {
                int due = count == 0 ? MutantLab.NO_MUTANT : MutantLab.NO_TEST;
                CHECK.due(held + "0, " + t + ")", lab.length(0, t), due);
            }
        }
        CHECK.due("no tests: length(0, 0)", passing(0, 1).length(0, 0), MutantLab.NO_TEST);
        CHECK.due("no mutants: length(0, 0)", passing(1, 0).length(0, 0), MutantLab.NO_MUTANT);
    }

    /** Promise 12: "(100 if it was stopped)", with loops of each length, which a hundred need not divide. */
    private static void promise12AHundredIfStopped() {
        for (int count = 1; count <= 12; count++) {
            MutantLab lab = new MutantLab();
            Labs.addPowers(lab, 0, count - 1);
            lab.emit(Ops.JZ, 2, 99);
            lab.snapshotTest(1, 0);
            lab.mutateC(count - 1, 0);
            lab.mutateC(count - 1, 12);
            CHECK.due("a loop of " + count + ": length(0, 0)", lab.length(0, 0), 100);
            CHECK.due("a loop of " + count + ": output(0, 0)", lab.output(0, 0), 0);
            CHECK.due("a loop of " + count + ": killers(0)", lab.killers(0), 1);
            CHECK.due("no loop, of " + count + ": length(1, 0)", lab.length(1, 0), count);
        }
    }

    /** "The least number of tests in a set that kills every mutant that any test kills.": 0 where none kills any. */
    private static void promise13NoneIsEnough() {
        for (int tests = 0; tests <= 6; tests++) {
            CHECK.due(tests + " tests, no mutants: enough()", passing(tests, 0).enough(), 0);
            CHECK.due(tests + " tests, 24 mutants: enough()", passing(tests, 24).enough(), tests > 0 ? 1 : 0);
            MutantLab lab = passing(tests, 0);
            for (int m = 0; m < 24; m++) {
                lab.mutateOp(0, Ops.INC);
            }
            CHECK.due(tests + " tests, none of which kills: enough()", lab.enough(), 0);
        }
    }

    /** The same sentence: the number has no bound in the program's length nor in that of a run, 1 here. */
    private static void promise13MoreTestsThanInstructions() {
        MutantLab lab = Ops.program(Ops.row(Ops.ADD, 0, 1, -2));
        lab.test(4, 2, 2);
        lab.test(0, -2, -2);
        lab.test(0, 2, -2);
        lab.test(-2, 0, -2);
        int[] ops = {Ops.SET, Ops.SUB, Ops.MIN, Ops.INC};
        for (int m = 0; m < 4; m++) {
            lab.mutateOp(0, ops[m]);
            CHECK.due("one instruction: killers(" + m + ")", lab.killers(m), 1 << m);
            CHECK.due("one instruction, each test needed, " + (m + 1) + ": enough()", lab.enough(), m + 1);
        }
        // Two tests more, which kill all of these as well, and without which it would be four.
        lab.test(0, 0, 77);
        CHECK.due("one that kills all: enough()", lab.enough(), 1);
        lab.test(1, 1, 78);
        CHECK.due("two that kill all: enough()", lab.enough(), 1);
    }

    /** Promise 14: "without tests all of them." */
    private static void promise14WithoutTests() {
        for (int mutants = 0; mutants <= 24; mutants++) {
            CHECK.due("no tests, " + mutants + " mutants: same()", passing(0, mutants).same(), mutants);
            CHECK.due("a test, " + mutants + " mutants: same()", passing(1, mutants).same(), 0);
        }
        // Also of one that would be stopped where the program is not.
        MutantLab lab = Ops.program(Ops.row(Ops.JZ, 2, 0, 1));
        lab.mutateC(0, 0);
        CHECK.due("no tests, one that is stopped: same()", lab.same(), 1);
        lab.test(0, 0, 0);
        CHECK.due("a test, one that is stopped: same()", lab.same(), 0);
    }

    /** Promise 14: "(or, like it, none)" */
    private static void promise14NoneLikeIt() {
        MutantLab lab = Ops.program(Ops.row(Ops.INC, 0, 0, 1), Ops.row(Ops.JZ, 2, 0, 0));
        lab.mutateC(0, 2);
        lab.mutateC(1, 1);
        lab.mutateC(1, 2);
        for (int t = 0; t < 6; t++) {
            lab.test(-1, t, 0);
            // Two are stopped like the program; the third ends with 0, which is an output.
            CHECK.due("stopped, " + (t + 1) + " tests: same()", lab.same(), 2);
        }
    }
}
