/** Promises 1 to 7: a new object, and the calls that change one. */
public final class BuildingTest {
    private static final Check CHECK = new Check();
    private static final int MOST = Integer.MAX_VALUE;
    private static final int LEAST = Integer.MIN_VALUE;
    private static final int[] BAD_OPS = {-1, 8, 9, 16, MOST, LEAST};

    public static void main(String[] args) {
        promise1NewObject();
        promise2Emit();
        promise2EmitReadsBothRegisters();
        promise2EmitRefuses();
        promise3Test();
        promise3TestRefuses();
        promise4SnapshotTest();
        promise4SnapshotOfNoOutput();
        promise4SnapshotStaysAsItWas();
        promise4SnapshotTestRefuses();
        promise5MutateOp();
        promise5MutateOpRefuses();
        promise6MutateC();
        promise6MutateCRefuses();
        promise7Clear();
        promise7LongerProgram();
        CHECK.end();
    }

    private static void promise1NewObject() {
        MutantLab lab = new MutantLab();
        CHECK.due("new: passes(0)", lab.passes(0), false);
        CHECK.due("new: killers(0)", lab.killers(0), MutantLab.NO_MUTANT);
        CHECK.due("new: killed(63)", lab.killed(63), 0);
        CHECK.due("new: output(0, 0)", lab.output(0, 0), 0);
        CHECK.due("new: length(0, 0)", lab.length(0, 0), MutantLab.NO_MUTANT);
        CHECK.due("new: enough()", lab.enough(), 0);
        CHECK.due("new: same()", lab.same(), 0);
        CHECK.due("new: mutateOp(0, 0)", lab.mutateOp(0, 0), MutantLab.BAD_PLACE);
        CHECK.due("new: mutateC(0, 0)", lab.mutateC(0, 0), MutantLab.BAD_PLACE);
        CHECK.due("new: emit", lab.emit(7, 0, 1), 0);
        CHECK.due("new: test", lab.test(1, 0, 2), 0);
        CHECK.due("new: mutateC", lab.mutateC(0, 2), 0);
        MutantLab other = new MutantLab();
        CHECK.due("a second object: emit", other.emit(7, 0, 1), 0);
        CHECK.due("a second object: killers(0)", other.killers(0), MutantLab.NO_MUTANT);
    }

    private static void promise2Emit() {
        MutantLab lab = new MutantLab();
        for (int i = 0; i < 12; i++) {
            CHECK.due("emit " + i, lab.emit(i & 7, i, i), i);
        }
        CHECK.due("emit 12", lab.emit(0, 0, 0), MutantLab.FULL);
        CHECK.due("emit 13", lab.emit(7, 0, 0), MutantLab.FULL);
    }

    private static void promise2EmitReadsBothRegisters() {
        // a = 1, b = 2 in the four lowest bits, under any others.
        int[] spellings = {9, 25, 9 + 16 * 1000, -7, LEAST + 9, MOST - 6};
        for (int regs : spellings) {
            MutantLab lab = new MutantLab();
            lab.emit(Ops.SET, 2, 40);
            lab.emit(Ops.ADD, regs, 0);
            lab.emit(Ops.ADD, Ops.regs(0, 1), 0);
            lab.test(1, 5, 46);
            CHECK.due("regs " + regs + ": passes(0)", lab.passes(0), true);
        }
    }

    private static void promise2EmitRefuses() {
        MutantLab lab = new MutantLab();
        lab.test(3, 0, 3);
        for (int op : BAD_OPS) {
            CHECK.due("emit of op " + op, lab.emit(op, 0, 5), MutantLab.BAD_OP);
        }
        CHECK.due("after bad ops: passes(0)", lab.passes(0), true);
        for (int i = 0; i < 12; i++) {
            CHECK.due("after bad ops: emit " + i, lab.emit(Ops.INC, 0, 1), i);
        }
        lab.clear();
        lab.snapshotTest(0, 0);
        CHECK.due("a thirteenth", lab.emit(Ops.INC, 0, 1), MutantLab.FULL);
        lab.test(0, 0, 12);
        lab.mutateC(11, 2);
        CHECK.due("after FULL: passes(0)", lab.passes(0), true);
        CHECK.due("after FULL: passes(1)", lab.passes(1), true);
        CHECK.due("after FULL: output(0, 1)", lab.output(0, 1), 13);
        CHECK.due("after FULL: length(0, 1)", lab.length(0, 1), 12);
        CHECK.due("after FULL: mutateC(12, 0)", lab.mutateC(12, 0), MutantLab.BAD_PLACE);
    }

    private static void promise3Test() {
        MutantLab lab = Ops.program(Ops.row(Ops.SUB, 0, 1, 0));
        CHECK.due("test 0", lab.test(10, 3, 7), 0);
        CHECK.due("test 1", lab.test(3, 10, 7), 1);
        CHECK.due("test 2", lab.test(LEAST, 1, MOST), 2);
        CHECK.due("test 3", lab.test(5, 5, 0), 3);
        CHECK.due("test 4", lab.test(0, 5, -5), 4);
        boolean[] due = {true, false, true, true, true};
        for (int t = 0; t < due.length; t++) {
            CHECK.due("SUB: passes(" + t + ")", lab.passes(t), due[t]);
        }
    }

    private static void promise3TestRefuses() {
        MutantLab lab = Ops.program(Ops.row(Ops.INC, 0, 0, 1));
        for (int t = 0; t < 6; t++) {
            CHECK.due("test " + t, lab.test(t, 0, t + 1 + (t & 1)), t);
        }
        lab.mutateC(0, 2);
        CHECK.due("test 6", lab.test(9, 0, 9), MutantLab.FULL);
        CHECK.due("test 7", lab.test(9, 0, 10), MutantLab.FULL);
        for (int t = 0; t < 6; t++) {
            CHECK.due("after FULL: passes(" + t + ")", lab.passes(t), (t & 1) == 0);
        }
        CHECK.due("after FULL: passes(6)", lab.passes(6), false);
        CHECK.due("after FULL: passes(7)", lab.passes(7), false);
        CHECK.due("after FULL: killers(0)", lab.killers(0), 1 + 4 + 16);
        CHECK.due("after FULL: length(0, 6)", lab.length(0, 6), MutantLab.NO_TEST);
    }

    private static void promise4SnapshotTest() {
        MutantLab lab = Ops.program(Ops.row(Ops.ADD, 0, 1, 0));
        CHECK.due("snapshotTest 0", lab.snapshotTest(4, 5), 0);
        CHECK.due("snapshotTest 1", lab.snapshotTest(-4, 4), 1);
        CHECK.due("test 2", lab.test(4, 5, 9), 2);
        CHECK.due("snapshotTest 3", lab.snapshotTest(4, 0), 3);
        lab.mutateOp(0, Ops.SUB);
        for (int t = 0; t < 4; t++) {
            CHECK.due("snapshots: passes(" + t + ")", lab.passes(t), true);
        }
        CHECK.due("snapshots: killers(0)", lab.killers(0), 1 + 2 + 4);
        CHECK.due("snapshots: output(0, 0)", lab.output(0, 0), -1);
        CHECK.due("snapshots: output(0, 1)", lab.output(0, 1), -8);
    }

    /** No output is another thing than the output 0, in both directions. */
    private static void promise4SnapshotOfNoOutput() {
        MutantLab lab = Ops.program(Ops.row(Ops.JZ, 1, 0, 0), Ops.row(Ops.SET, 0, 0, 0));
        CHECK.due("no output: snapshotTest", lab.snapshotTest(0, 0), 0);
        CHECK.due("no output: test", lab.test(0, 0, 0), 1);
        CHECK.due("an output of 0: snapshotTest", lab.snapshotTest(0, 1), 2);
        lab.mutateC(0, 1);
        lab.mutateC(0, 0);
        CHECK.due("no output: passes(0)", lab.passes(0), true);
        CHECK.due("no output: passes(1)", lab.passes(1), false);
        CHECK.due("an output of 0: passes(2)", lab.passes(2), true);
        CHECK.due("a mutant that ends: killers", lab.killers(0), 1);
        CHECK.due("a mutant that is stopped: killers", lab.killers(1), 2);
        CHECK.due("a mutant that ends: output", lab.output(0, 0), 0);
        CHECK.due("a mutant that is stopped: output", lab.output(1, 0), 0);
    }

    private static void promise4SnapshotStaysAsItWas() {
        MutantLab lab = Ops.program(Ops.row(Ops.INC, 0, 0, 1));
        lab.snapshotTest(1, 0);
        lab.emit(Ops.INC, 0, 1);
        lab.snapshotTest(1, 0);
        CHECK.due("a longer program: passes(0)", lab.passes(0), false);
        CHECK.due("a longer program: passes(1)", lab.passes(1), true);
        // Now without an output, which neither snapshot had.
        lab.emit(Ops.JZ, 3, 2);
        lab.snapshotTest(1, 0);
        CHECK.due("a program that is stopped: passes(0)", lab.passes(0), false);
        CHECK.due("a program that is stopped: passes(1)", lab.passes(1), false);
        CHECK.due("a program that is stopped: passes(2)", lab.passes(2), true);
    }

    private static void promise4SnapshotTestRefuses() {
        MutantLab lab = Ops.program(Ops.row(Ops.INC, 0, 0, 1));
        for (int t = 0; t < 6; t++) {
            CHECK.due("snapshotTest " + t, lab.snapshotTest(t, 0), t);
        }
        CHECK.due("snapshotTest 6", lab.snapshotTest(9, 9), MutantLab.FULL);
        CHECK.due("test 6", lab.test(9, 9, 9), MutantLab.FULL);
        for (int t = 0; t < 6; t++) {
            CHECK.due("after FULL: passes(" + t + ")", lab.passes(t), true);
        }
        CHECK.due("after FULL: passes(6)", lab.passes(6), false);
    }

    private static void promise5MutateOp() {
        MutantLab lab = Ops.program(Ops.row(Ops.ADD, 0, 1, 50), Ops.row(Ops.INC, 0, 0, 1));
        lab.snapshotTest(6, 2);
        int[] outputs = {51, 9, 5, 13, 3, 7, 7, 57};
        for (int op = 0; op < 8; op++) {
            CHECK.due("mutateOp(0, " + op + ")", lab.mutateOp(0, op), op);
        }
        for (int op = 0; op < 8; op++) {
            CHECK.due("op " + op + " at 0: output", lab.output(op, 0), outputs[op]);
            CHECK.due("op " + op + " at 0: length", lab.length(op, 0), 2);
            CHECK.due("op " + op + " at 0: killers", lab.killers(op), op == Ops.ADD ? 0 : 1);
        }
        CHECK.due("mutateOp(1, JZ)", lab.mutateOp(1, Ops.JZ), 8);
        CHECK.due("JZ at 1: output", lab.output(8, 0), 8);
        CHECK.due("mutants leave the program: passes(0)", lab.passes(0), true);
    }

    private static void promise5MutateOpRefuses() {
        MutantLab lab = Ops.program(Ops.row(Ops.ADD, 0, 1, 0), Ops.row(Ops.ADD, 0, 1, 0));
        int[] badPlaces = {-1, 2, 11, 12, MOST, LEAST};
        for (int p : badPlaces) {
            CHECK.due("mutateOp(" + p + ", 0)", lab.mutateOp(p, 0), MutantLab.BAD_PLACE);
        }
        for (int op : BAD_OPS) {
            CHECK.due("mutateOp(0, " + op + ")", lab.mutateOp(0, op), MutantLab.BAD_OP);
        }
        CHECK.due("after refusals: same()", lab.same(), 0);
        for (int m = 0; m < 24; m++) {
            CHECK.due("mutateOp " + m, lab.mutateOp(m & 1, Ops.SUB), m);
        }
        CHECK.due("mutateOp 24", lab.mutateOp(0, Ops.MUL), MutantLab.FULL);
        CHECK.due("mutateC 24", lab.mutateC(0, 1), MutantLab.FULL);
        lab.snapshotTest(1, 5);
        CHECK.due("after FULL: same()", lab.same(), 0);
        CHECK.due("after FULL: killed(1)", lab.killed(1), 24);
        CHECK.due("after FULL: output(0, 0)", lab.output(0, 0), 1);
        CHECK.due("after FULL: output(23, 0)", lab.output(23, 0), 1);
        CHECK.due("after FULL: killers(24)", lab.killers(24), MutantLab.NO_MUTANT);
    }

    private static void promise6MutateC() {
        MutantLab lab = Ops.program(
            Ops.row(Ops.INC, 0, 0, 1), Ops.row(Ops.JZ, 1, 0, 3), Ops.row(Ops.SET, 0, 0, 90), Ops.row(Ops.INC, 0, 0, 0));
        lab.snapshotTest(5, 0);
        lab.snapshotTest(5, 1);
        CHECK.due("mutateC(0, -8)", lab.mutateC(0, -8), 0);
        CHECK.due("mutateC(1, 2)", lab.mutateC(1, 2), 1);
        CHECK.due("mutateC(1, -1)", lab.mutateC(1, -1), 2);
        CHECK.due("mutateC(2, LEAST)", lab.mutateC(2, LEAST), 3);
        CHECK.due("mutateC(1, 3), the same", lab.mutateC(1, 3), 4);
        int[][] outputs = {{-3, 90}, {90, 90}, {6, 90}, {6, LEAST}, {6, 90}};
        int[][] lengths = {{3, 4}, {4, 4}, {2, 4}, {3, 4}, {3, 4}};
        int[] killers = {1, 1, 0, 2, 0};
        for (int m = 0; m < 5; m++) {
            for (int t = 0; t < 2; t++) {
                CHECK.due("mutateC: output(" + m + ", " + t + ")", lab.output(m, t), outputs[m][t]);
                CHECK.due("mutateC: length(" + m + ", " + t + ")", lab.length(m, t), lengths[m][t]);
            }
            CHECK.due("mutateC: killers(" + m + ")", lab.killers(m), killers[m]);
        }
    }

    private static void promise6MutateCRefuses() {
        MutantLab lab = Ops.program(Ops.row(Ops.INC, 0, 0, 1), Ops.row(Ops.INC, 0, 0, 1));
        int[] badPlaces = {-1, 2, 11, 12, MOST, LEAST};
        for (int p : badPlaces) {
            CHECK.due("mutateC(" + p + ", 0)", lab.mutateC(p, 0), MutantLab.BAD_PLACE);
        }
        CHECK.due("after refusals: same()", lab.same(), 0);
        for (int m = 0; m < 24; m++) {
            CHECK.due("mutateC " + m, lab.mutateC(m & 1, m), m);
        }
        CHECK.due("mutateC 24", lab.mutateC(0, 99), MutantLab.FULL);
        CHECK.due("mutateOp 24", lab.mutateOp(0, 0), MutantLab.FULL);
        lab.test(0, 0, 0);
        for (int m = 0; m < 24; m++) {
            CHECK.due("after FULL: output(" + m + ", 0)", lab.output(m, 0), m + 1);
        }
        CHECK.due("after FULL: same()", lab.same(), 1);
    }

    private static void promise7Clear() {
        MutantLab lab = Ops.program(Ops.row(Ops.INC, 0, 0, 1), Ops.row(Ops.JZ, 1, 0, 1));
        for (int t = 0; t < 6; t++) {
            lab.snapshotTest(t, t & 1);
        }
        for (int m = 0; m < 24; m++) {
            lab.mutateC(0, m);
        }
        lab.clear();
        CHECK.due("clear: passes(0)", lab.passes(0), false);
        CHECK.due("clear: killers(0)", lab.killers(0), MutantLab.NO_MUTANT);
        CHECK.due("clear: killed(63)", lab.killed(63), 0);
        CHECK.due("clear: output(0, 0)", lab.output(0, 0), 0);
        CHECK.due("clear: length(0, 0)", lab.length(0, 0), MutantLab.NO_MUTANT);
        CHECK.due("clear: enough()", lab.enough(), 0);
        CHECK.due("clear: same()", lab.same(), 0);
        CHECK.due("clear: mutateC(1, 0) finds the program", lab.mutateC(1, 0), 0);
        CHECK.due("clear: length(0, 0)", lab.length(0, 0), MutantLab.NO_TEST);
        // The test that stood here before expected no output; nothing of it is left.
        CHECK.due("clear: test", lab.test(7, 1, 8), 0);
        CHECK.due("clear: passes(0)", lab.passes(0), true);
        CHECK.due("clear: output(0, 0)", lab.output(0, 0), 8);
        CHECK.due("clear: emit", lab.emit(Ops.INC, 0, 1), 2);
        lab.clear();
        lab.clear();
        CHECK.due("clear twice: same()", lab.same(), 0);
    }

    private static void promise7LongerProgram() {
        MutantLab lab = Ops.program(Ops.row(Ops.INC, 0, 0, 1), Ops.row(Ops.JZ, 1, 0, 2));
        lab.snapshotTest(5, 0);
        lab.mutateC(0, 3);
        lab.mutateOp(0, Ops.SET);
        lab.mutateC(1, 3);
        CHECK.due("short: output(0, 0)", lab.output(0, 0), 8);
        CHECK.due("short: output(1, 0)", lab.output(1, 0), 1);
        CHECK.due("short: length(2, 0)", lab.length(2, 0), 2);
        CHECK.due("short: killers(2)", lab.killers(2), 0);
        lab.emit(Ops.INC, 0, 100);
        lab.emit(Ops.INC, 0, 1000);
        CHECK.due("longer: output(0, 0)", lab.output(0, 0), 1108);
        CHECK.due("longer: output(1, 0)", lab.output(1, 0), 1101);
        CHECK.due("longer: output(2, 0)", lab.output(2, 0), 1006);
        CHECK.due("longer: length(0, 0)", lab.length(0, 0), 4);
        CHECK.due("longer: length(2, 0)", lab.length(2, 0), 3);
        CHECK.due("longer: killers(2)", lab.killers(2), 1);
        CHECK.due("longer: same()", lab.same(), 0);
        CHECK.due("longer: mutateC(3, 0)", lab.mutateC(3, 0), 3);
        CHECK.due("longer: output(3, 0)", lab.output(3, 0), 106);
    }
}
