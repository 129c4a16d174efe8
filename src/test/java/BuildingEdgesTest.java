import java.util.function.ObjIntConsumer;

/** The edges that promises 1 to 7 name; each method quotes its sentence. BuildingTest has the rest of them. */
public final class BuildingEdgesTest {
    private static final Check CHECK = new Check();
    private static final int MOST = Integer.MAX_VALUE;
    private static final int LEAST = Integer.MIN_VALUE;
    private static final int[] BAD_OPS = {-1, 8, 9, 15, 16, MOST, LEAST};
    private static final int[] GOOD_OPS = {0, 1, 2, 3, 4, 5, 6, 7};

    public static void main(String[] args) {
        promise1NoInstructionsTestsOrMutants();
        promise2OpNotIn0To7();
        promise2ThereAreTwelve();
        promise2NothingChanges();
        promise3ThereAreSix();
        promise4ThereAreSix();
        promise3And4NothingChanges();
        promise5NotTheNumberOfAnInstruction();
        promise5OpNotIn0To7();
        promise5ThereAre24();
        promise5NothingChanges();
        promise5MayBeTheSameOp();
        promise6NotTheNumberOfAnInstruction();
        promise6ThereAre24();
        promise6NothingChanges();
        promise6AnyCIsTaken();
        promise7DropsTestsAndMutants();
        promise7NothingOfADroppedTestIsLeft();
        promise7NothingOfADroppedMutantIsLeft();
        promise7MadeLongerAtAnyTime();
        CHECK.end();
    }

    /** A call with each of the numbers, made on one of two equal objects, must leave it equal to the other one. */
    private static void changesNothing(String what, int[] sizes, ObjIntConsumer<MutantLab> call, int... numbers) {
        String on = " with " + sizes[0] + " instructions, " + sizes[1] + " tests, " + sizes[2] + " mutants";
        for (int number : numbers) {
            // One call an object: the next one might undo what this one did.
            MutantLab called = Labs.of(sizes[0], sizes[1], sizes[2]);
            call.accept(called, number);
            MutantLab untouched = Labs.of(sizes[0], sizes[1], sizes[2]);
            CHECK.alike("nothing changes after " + what + " (" + number + ")" + on, called, untouched);
        }
    }

    private static int[] sizes(int instructions, int tests, int mutants) {
        return new int[] {instructions, tests, mutants};
    }

    /** Numbers that no instruction has in a program of this length. */
    private static int[] badPlaces(int count) {
        return new int[] {-1, -2, count, count + 1, 12, 13, MOST, LEAST};
    }

    /** "No instructions, tests or mutants." */
    private static void promise1NoInstructionsTestsOrMutants() {
        // Made after a full one, from which nothing may come over.
        Labs.of(12, 6, 24);
        MutantLab lab = new MutantLab();
        for (int p = -1; p <= 12; p++) {
            CHECK.due("new: mutateOp(" + p + ", 0)", lab.mutateOp(p, 0), MutantLab.BAD_PLACE);
            CHECK.due("new: mutateC(" + p + ", 0)", lab.mutateC(p, 0), MutantLab.BAD_PLACE);
        }
        for (int m = -1; m <= 24; m++) {
            CHECK.due("new: killers(" + m + ")", lab.killers(m), MutantLab.NO_MUTANT);
            CHECK.due("new: length(" + m + ", 0)", lab.length(m, 0), MutantLab.NO_MUTANT);
            CHECK.due("new: output(" + m + ", 0)", lab.output(m, 0), 0);
        }
        for (int t = -1; t <= 6; t++) {
            CHECK.due("new: passes(" + t + ")", lab.passes(t), false);
        }
        CHECK.due("new: killed(-1)", lab.killed(-1), 0);
        CHECK.due("new: enough()", lab.enough(), 0);
        CHECK.due("new: same()", lab.same(), 0);
        CHECK.due("new: the first test", lab.test(4, 0, 4), 0);
        CHECK.due("new: the program is empty", lab.passes(0), true);
        CHECK.due("new: the first instruction", lab.emit(Ops.INC, 0, 1), 0);
        CHECK.due("new: the first mutant", lab.mutateC(0, 2), 0);
        CHECK.due("new: the first mutant's length", lab.length(0, 0), 1);
    }

    /** "op not in 0 to 7: BAD_OP" */
    private static void promise2OpNotIn0To7() {
        for (int count = 0; count <= 12; count++) {
            for (int op : BAD_OPS) {
                int answer = Labs.of(count, 0, 0).emit(op, 0, 0);
                CHECK.due(count + " instructions: emit(" + op + ", 0, 0)", answer, MutantLab.BAD_OP);
            }
        }
        for (int op : GOOD_OPS) {
            CHECK.due("emit(" + op + ", 0, 0)", new MutantLab().emit(op, 0, 0), 0);
        }
    }

    /** "there are twelve: FULL" */
    private static void promise2ThereAreTwelve() {
        for (int op : GOOD_OPS) {
            MutantLab lab = Labs.of(11, 0, 0);
            CHECK.due("eleven: emit(" + op + ", 0, 0)", lab.emit(op, 0, 0), 11);
            CHECK.due("twelve: emit(" + op + ", 0, 0)", lab.emit(op, 0, 0), MutantLab.FULL);
            CHECK.due("twelve: emit(" + op + ", MOST, LEAST)", lab.emit(op, MOST, LEAST), MutantLab.FULL);
            // The program stays when tests and mutants are dropped, so it stays full.
            lab.clear();
            CHECK.due("twelve, cleared: emit(" + op + ", 0, 0)", lab.emit(op, 0, 0), MutantLab.FULL);
        }
    }

    /** "BAD_OP; there are twelve: FULL; nothing changes then." */
    private static void promise2NothingChanges() {
        for (int count = 0; count <= 12; count++) {
            int[] held = sizes(count, 5, count > 0 ? 20 : 0);
            changesNothing("emit of a bad op", held, (lab, op) -> lab.emit(op, 1, 77), BAD_OPS);
        }
        int[] full = sizes(12, 6, 24);
        changesNothing("emit of a bad op", full, (lab, op) -> lab.emit(op, 1, 77), BAD_OPS);
        changesNothing("emit of a thirteenth", full, (lab, op) -> lab.emit(op, 0, 77), GOOD_OPS);
        changesNothing("emit of a thirteenth", sizes(12, 3, 12), (lab, op) -> lab.emit(op, 4, -1), GOOD_OPS);
    }

    /** Promise 3: "There are six: FULL, nothing changes." */
    private static void promise3ThereAreSix() {
        for (int program = 0; program <= 12; program += 6) {
            MutantLab lab = Labs.of(program, 5, 0);
            CHECK.due("five: test", lab.test(LEAST, MOST, 0), 5);
            CHECK.due("six: test", lab.test(0, 0, 0), MutantLab.FULL);
            CHECK.due("six: the same test", lab.test(LEAST, MOST, 0), MutantLab.FULL);
            lab.clear();
            CHECK.due("cleared: test", lab.test(0, 0, 0), 0);
        }
    }

    /** Promise 4: "There are six: FULL, nothing changes." */
    private static void promise4ThereAreSix() {
        for (int program = 0; program <= 12; program += 6) {
            MutantLab lab = Labs.of(program, 5, 0);
            CHECK.due("five: snapshotTest", lab.snapshotTest(LEAST, MOST), 5);
            CHECK.due("six: snapshotTest", lab.snapshotTest(0, 0), MutantLab.FULL);
            CHECK.due("six: the same snapshotTest", lab.snapshotTest(LEAST, MOST), MutantLab.FULL);
            lab.clear();
            CHECK.due("cleared: snapshotTest", lab.snapshotTest(0, 0), 0);
        }
        // Also for one that would expect no output.
        MutantLab stopped = Ops.program(Ops.row(Ops.JZ, 2, 0, 0));
        for (int t = 0; t < 6; t++) {
            CHECK.due("stopped: snapshotTest " + t, stopped.snapshotTest(t, 0), t);
        }
        CHECK.due("stopped: snapshotTest 6", stopped.snapshotTest(6, 0), MutantLab.FULL);
        CHECK.due("stopped: test 6", stopped.test(6, 0, 0), MutantLab.FULL);
        for (int t = 0; t < 6; t++) {
            CHECK.due("stopped: passes(" + t + ")", stopped.passes(t), true);
        }
    }

    /** Promises 3 and 4: "There are six: FULL, nothing changes." */
    private static void promise3And4NothingChanges() {
        int[][] held = {sizes(0, 6, 0), sizes(1, 6, 3), sizes(12, 6, 24)};
        for (int[] sizes : held) {
            changesNothing("a seventh test", sizes, (lab, x) -> lab.test(x, 50, x), 9, -9, MOST, LEAST);
            changesNothing("a seventh snapshotTest", sizes, (lab, x) -> lab.snapshotTest(x, 50), 9, -9, MOST, LEAST);
        }
    }

    /** "p is not the number of an instruction: BAD_PLACE" */
    private static void promise5NotTheNumberOfAnInstruction() {
        for (int count = 0; count <= 12; count++) {
            MutantLab lab = Labs.of(count, 0, 0);
            for (int p : badPlaces(count)) {
                String call = count + " instructions: mutateOp(" + p + ", 0)";
                CHECK.due(call, lab.mutateOp(p, 0), MutantLab.BAD_PLACE);
            }
            for (int p = 0; p < count; p++) {
                CHECK.due(count + " instructions: mutateOp(" + p + ", 0)", lab.mutateOp(p, 0), p);
            }
        }
    }

    /** Promise 5: "op not in 0 to 7: BAD_OP" */
    private static void promise5OpNotIn0To7() {
        MutantLab lab = Labs.of(12, 0, 0);
        for (int op : BAD_OPS) {
            CHECK.due("mutateOp(0, " + op + ")", lab.mutateOp(0, op), MutantLab.BAD_OP);
            CHECK.due("mutateOp(11, " + op + ")", lab.mutateOp(11, op), MutantLab.BAD_OP);
        }
        for (int op : GOOD_OPS) {
            CHECK.due("mutateOp(11, " + op + ")", lab.mutateOp(11, op), op);
        }
    }

    /** Promise 5: "there are 24: FULL" */
    private static void promise5ThereAre24() {
        MutantLab lab = Labs.of(12, 6, 23);
        CHECK.due("23: mutateOp(0, 0)", lab.mutateOp(0, 0), 23);
        for (int op : GOOD_OPS) {
            CHECK.due("24: mutateOp(" + op + ", " + op + ")", lab.mutateOp(op, op), MutantLab.FULL);
        }
        lab.clear();
        CHECK.due("cleared: mutateOp(0, 0)", lab.mutateOp(0, 0), 0);
    }

    /** Promise 5: "BAD_PLACE; [..] BAD_OP; there are 24: FULL; nothing changes then." */
    private static void promise5NothingChanges() {
        for (int count = 0; count <= 12; count++) {
            int[] held = sizes(count, 6, count);
            changesNothing("mutateOp of no place", held, (lab, p) -> lab.mutateOp(p, 0), badPlaces(count));
            if (count > 0) {
                int last = count - 1;
                changesNothing("mutateOp to a bad op", held, (lab, op) -> lab.mutateOp(last, op), BAD_OPS);
            }
        }
        int[] full = sizes(12, 6, 24);
        changesNothing("a 25th by mutateOp", full, (lab, op) -> lab.mutateOp(op, op), GOOD_OPS);
        changesNothing("mutateOp of no place", full, (lab, p) -> lab.mutateOp(p, 0), badPlaces(12));
        changesNothing("mutateOp to a bad op", full, (lab, op) -> lab.mutateOp(11, op), BAD_OPS);
    }

    /** "(It may be the same op.)" */
    private static void promise5MayBeTheSameOp() {
        MutantLab lab = new MutantLab();
        for (int i = 0; i < 12; i++) {
            lab.emit(i & 7, i, 12 + i);
        }
        for (int t = 0; t < 6; t++) {
            lab.snapshotTest(3 * t - 4, t);
        }
        for (int m = 0; m < 24; m++) {
            int p = m % 12;
            CHECK.due("the same op at " + p + ", mutant " + m, lab.mutateOp(p, p & 7), m);
        }
        CHECK.due("24 of the same op: same()", lab.same(), 24);
        CHECK.due("24 of the same op: killed(63)", lab.killed(63), 0);
    }

    /** Promise 6: "BAD_PLACE" */
    private static void promise6NotTheNumberOfAnInstruction() {
        for (int count = 0; count <= 12; count++) {
            MutantLab lab = Labs.of(count, 0, 0);
            for (int p : badPlaces(count)) {
                String call = count + " instructions: mutateC(" + p + ", 0)";
                CHECK.due(call, lab.mutateC(p, 0), MutantLab.BAD_PLACE);
            }
            for (int p = 0; p < count; p++) {
                CHECK.due(count + " instructions: mutateC(" + p + ", 0)", lab.mutateC(p, 0), p);
            }
        }
    }

    /** Promise 6: "there are 24: FULL" */
    private static void promise6ThereAre24() {
        MutantLab lab = Labs.of(12, 6, 23);
        CHECK.due("23: mutateC(0, LEAST)", lab.mutateC(0, LEAST), 23);
        for (int p = 0; p < 12; p++) {
            CHECK.due("24: mutateC(" + p + ", 7)", lab.mutateC(p, 7), MutantLab.FULL);
        }
        lab.clear();
        CHECK.due("cleared: mutateC(0, 7)", lab.mutateC(0, 7), 0);
    }

    /** Promise 6: "BAD_PLACE; there are 24: FULL; nothing changes then." */
    private static void promise6NothingChanges() {
        for (int count = 0; count <= 12; count++) {
            int[] held = sizes(count, 6, count);
            changesNothing("mutateC of no place", held, (lab, p) -> lab.mutateC(p, 7), badPlaces(count));
        }
        int[] full = sizes(12, 6, 24);
        changesNothing("a 25th by mutateC", full, (lab, p) -> lab.mutateC(p, 7), GOOD_OPS);
        changesNothing("mutateC of no place", full, (lab, p) -> lab.mutateC(p, 7), badPlaces(12));
    }

    /**
     * "Adds the mutant in which instruction p has another c. BAD_PLACE; there are 24: FULL; [..] Else answers its
     * number.": no c is refused, whatever the op, be it the one that the instruction has.
     */
    private static void promise6AnyCIsTaken() {
        int[] cs = {0, 1, -1, 7, 8, 12, 100, MOST, LEAST};
        for (int op : GOOD_OPS) {
            for (int own : cs) {
                MutantLab lab = Ops.program(Ops.row(op, 0, 1, own));
                lab.snapshotTest(3, 5);
                lab.snapshotTest(0, 0);
                for (int m = 0; m < cs.length; m++) {
                    CHECK.due("op " + op + " with " + own + ": mutateC(0, " + cs[m] + ")", lab.mutateC(0, cs[m]), m);
                    if (cs[m] == own) {
                        CHECK.due("op " + op + ", the same c " + own + ": killers", lab.killers(m), 0);
                    }
                }
            }
        }
        MutantLab full = Ops.program(Ops.row(Ops.INC, 0, 0, 1));
        for (int m = 0; m < 24; m++) {
            CHECK.due("the same c, time " + m, full.mutateC(0, 1), m);
        }
        full.snapshotTest(4, 0);
        CHECK.due("24 of the same c: same()", full.same(), 24);
        CHECK.due("24 of the same c: one more", full.mutateC(0, 1), MutantLab.FULL);
    }

    /** "Drops tests and mutants; the program stays." */
    private static void promise7DropsTestsAndMutants() {
        for (int count = 0; count <= 12; count++) {
            for (int tests = 0; tests <= 6; tests += 3) {
                MutantLab lab = Labs.of(count, tests, 2 * count);
                lab.clear();
                CHECK.alike("cleared with " + count + " instructions", lab, Labs.of(count, 0, 0));
            }
        }
        // There is room for as many again, and they are the new ones.
        MutantLab again = new MutantLab();
        Labs.addPowers(again, 0, 12);
        for (int i = 0; i < 24; i++) {
            again.snapshotTest(7, 7);
            again.mutateC(11, i);
        }
        again.clear();
        for (int t = 0; t < 6; t++) {
            CHECK.due("cleared: test " + t, again.test(-t, 0, 4095 - t), t);
        }
        for (int m = 0; m < 24; m++) {
            CHECK.due("cleared: mutateC " + m, again.mutateC(0, m), m);
            CHECK.due("cleared: output(" + m + ", 5)", again.output(m, 5), 4094 + m - 5);
        }
        CHECK.due("cleared: killed(63)", again.killed(63), 23);
        // And a clear with nothing to drop.
        MutantLab empty = new MutantLab();
        empty.clear();
        CHECK.alike("a new one, cleared", empty, new MutantLab());
    }

    /** The same sentence: a test with an output where one without it stood, and the other way about. */
    private static void promise7NothingOfADroppedTestIsLeft() {
        MutantLab lab = Ops.program(Ops.row(Ops.JZ, 1, 0, 0));
        for (int time = 0; time < 4; time++) {
            boolean stopped = time % 2 == 1;
            for (int t = 0; t < 6; t++) {
                CHECK.due("time " + time + ": snapshotTest " + t, lab.snapshotTest(5 + t, stopped ? 0 : 1), t);
            }
            lab.mutateC(0, 1);
            for (int t = 0; t < 6; t++) {
                CHECK.due("time " + time + ": passes(" + t + ")", lab.passes(t), true);
            }
            // The mutant always ends, so it is killed where no output is expected.
            CHECK.due("time " + time + ": killers(0)", lab.killers(0), stopped ? 63 : 0);
            lab.clear();
        }
    }

    /** The same sentence: a mutant with each op where one with each op stood. */
    private static void promise7NothingOfADroppedMutantIsLeft() {
        int[] outputs = {50, 8, 4, 12, 2, 6, 6, 56};
        for (int before : GOOD_OPS) {
            for (int after : GOOD_OPS) {
                MutantLab lab = Ops.program(Ops.row(Ops.ADD, 0, 1, 50), Ops.row(Ops.INC, 0, 0, 0));
                lab.mutateOp(0, before);
                lab.mutateC(1, before);
                lab.clear();
                lab.test(6, 2, 8);
                String what = "op " + before + " dropped, op " + after;
                CHECK.due(what + ": mutateOp", lab.mutateOp(0, after), 0);
                CHECK.due(what + ": mutateC", lab.mutateC(1, after), 1);
                CHECK.due(what + ": output(0, 0)", lab.output(0, 0), outputs[after]);
                CHECK.due(what + ": output(1, 0)", lab.output(1, 0), 8 + after);
                // Each where the other one stood.
                lab.clear();
                lab.test(6, 2, 8);
                lab.mutateC(1, after);
                lab.mutateOp(0, after);
                CHECK.due(what + ", the other way about: output(0, 0)", lab.output(0, 0), 8 + after);
                CHECK.due(what + ", the other way about: output(1, 0)", lab.output(1, 0), outputs[after]);
            }
        }
    }

    /** "(The program can be made longer at any time: mutants are then the longer program with the same change.)" */
    private static void promise7MadeLongerAtAnyTime() {
        for (int before = 1; before < 12; before++) {
            for (int after = before + 1; after <= 12; after++) {
                MutantLab grown = new MutantLab();
                addProgram(grown, 0, before);
                addTestsAndMutants(grown, before);
                // A look between: what it saw of the short program may not stay.
                grown.enough();
                grown.same();
                addProgram(grown, before, after);
                MutantLab whole = new MutantLab();
                addProgram(whole, 0, after);
                addTestsAndMutants(whole, before);
                CHECK.alike("made longer from " + before + " to " + after, grown, whole);
            }
        }
    }

    private static void addProgram(MutantLab lab, int from, int to) {
        for (int i = from; i < to; i++) {
            // JLT as each third, out of the short program and into the longer one.
            int op = i % 3 == 2 ? Ops.JLT : i % 3 == 1 ? Ops.ADD : Ops.INC;
            lab.emit(op, Ops.regs(i % 3 == 2 ? 2 : 0, 1), i + 3);
        }
    }

    private static void addTestsAndMutants(MutantLab lab, int count) {
        for (int t = 0; t < 6; t++) {
            lab.test(t, 2 - t, 20);
        }
        for (int m = 0; m < 24; m++) {
            int p = m / 2 % count;
            if (m % 2 == 0) {
                lab.mutateC(p, m);
            } else {
                lab.mutateOp(p, m / 2 % 8);
            }
        }
    }
}
