/** The section Terms: what each instruction does, where a run ends and when it is stopped. */
public final class RunTest {
    private static final Check CHECK = new Check();
    private static final int MOST = Integer.MAX_VALUE;
    private static final int LEAST = Integer.MIN_VALUE;

    public static void main(String[] args) {
        arithmetic();
        arithmeticWraps();
        everyPairOfRegisters();
        otherRegistersBeginWithZero();
        jumps();
        endsOutsideTheProgram();
        endsAtOnceWithoutInstructions();
        stoppedAfterAHundred();
        mayEndWithTheHundredth();
        registersDoNotOutliveARun();
        CHECK.end();
    }

    /** The program's run on x, y: its output and its length, asked through a mutant with the same op. */
    private static void gives(String what, int x, int y, int output, int length, int[]... rows) {
        MutantLab lab = Ops.program(rows);
        lab.test(x, y, output);
        lab.test(x, y, output + 1);
        lab.mutateOp(0, rows[0][0]);
        String on = what + " on " + x + ", " + y;
        CHECK.due(on + ": passes(0)", lab.passes(0), true);
        CHECK.due(on + ": passes(1)", lab.passes(1), false);
        CHECK.due(on + ": output", lab.output(0, 0), output);
        CHECK.due(on + ": length", lab.length(0, 0), length);
        CHECK.due(on + ": killers", lab.killers(0), 2);
    }

    /** The program's run on x, y is stopped. */
    private static void stops(String what, int x, int y, int[]... rows) {
        MutantLab lab = Ops.program(rows);
        lab.snapshotTest(x, y);
        lab.test(x, y, 0);
        lab.mutateOp(0, rows[0][0]);
        String on = what + " on " + x + ", " + y;
        CHECK.due(on + ": passes(0)", lab.passes(0), true);
        CHECK.due(on + ": passes(1)", lab.passes(1), false);
        CHECK.due(on + ": output", lab.output(0, 0), 0);
        CHECK.due(on + ": length", lab.length(0, 0), 100);
        CHECK.due(on + ": killers", lab.killers(0), 2);
    }

    private static void one(String name, int op, int c, int x, int y, int output) {
        gives(name, x, y, output, 1, Ops.row(op, 0, 1, c));
    }

    private static void arithmetic() {
        one("SET", Ops.SET, 9, 5, 3, 9);
        one("SET", Ops.SET, -9, 5, 3, -9);
        one("ADD", Ops.ADD, 100, 5, 3, 8);
        one("SUB", Ops.SUB, 100, 5, 3, 2);
        one("SUB", Ops.SUB, 100, 3, 5, -2);
        one("MUL", Ops.MUL, 100, 5, 3, 15);
        one("MUL", Ops.MUL, 100, -5, 3, -15);
        one("MIN", Ops.MIN, 100, 5, 3, 3);
        one("MIN", Ops.MIN, 100, 3, 5, 3);
        one("MIN", Ops.MIN, 100, 4, 4, 4);
        one("MIN", Ops.MIN, 100, -4, 3, -4);
        gives("MIN with a register set before", 5, 9, 3, 2, Ops.row(Ops.SET, 1, 0, 3), Ops.row(Ops.MIN, 0, 1, 0));
        one("INC", Ops.INC, 7, 5, 3, 12);
        one("INC", Ops.INC, -7, 5, 3, -2);
        one("INC", Ops.INC, 0, 5, 3, 5);
    }

    private static void arithmeticWraps() {
        one("ADD", Ops.ADD, 0, MOST, 1, LEAST);
        one("SUB", Ops.SUB, 0, LEAST, 1, MOST);
        one("MUL", Ops.MUL, 0, 65536, 65536, 0);
        one("MUL", Ops.MUL, 0, LEAST, -1, LEAST);
        one("MUL", Ops.MUL, 0, 123456789, 987654321, 123456789 * 987654321);
        one("INC", Ops.INC, 1, MOST, 0, LEAST);
        one("SET", Ops.SET, LEAST, 0, 0, LEAST);
        // A comparison by subtraction would be wrong for these.
        one("MIN", Ops.MIN, 0, LEAST, MOST, LEAST);
        one("MIN", Ops.MIN, 0, MOST, LEAST, LEAST);
    }

    private static void everyPairOfRegisters() {
        for (int a = 0; a < 4; a++) {
            for (int b = 0; b < 4; b++) {
                int[] after = {1, 10, 100, 1000};
                after[a] += after[b];
                String what = "ADD of R[" + b + "] to R[" + a + "], ";
                int[] two = Ops.row(Ops.SET, 2, 0, 100);
                int[] three = Ops.row(Ops.SET, 3, 0, 1000);
                int[] add = Ops.row(Ops.ADD, a, b, 0);
                gives(what + "R[0]", 1, 10, after[0], 3, two, three, add);
                for (int r = 1; r < 4; r++) {
                    gives(what + "R[" + r + "]", 1, 10, after[r], 5, two, three, add,
                        Ops.row(Ops.SET, 0, 0, 0), Ops.row(Ops.ADD, 0, r, 0));
                }
            }
        }
    }

    private static void otherRegistersBeginWithZero() {
        gives("ADD of R[2]", 5, 3, 5, 1, Ops.row(Ops.ADD, 0, 2, 0));
        gives("MUL by R[2]", 5, 3, 0, 1, Ops.row(Ops.MUL, 0, 2, 0));
        gives("MUL by R[3]", 5, 3, 0, 1, Ops.row(Ops.MUL, 0, 3, 0));
        gives("ADD of R[3]", 5, 3, 5, 1, Ops.row(Ops.ADD, 0, 3, 0));
    }

    private static void jumps() {
        int[] mark = Ops.row(Ops.SET, 0, 0, 77);
        int[] less = Ops.row(Ops.JLT, 0, 1, 2);
        gives("JLT", 3, 5, 3, 1, less, mark);
        gives("JLT", 5, 5, 77, 2, less, mark);
        gives("JLT", 6, 5, 77, 2, less, mark);
        gives("JLT", LEAST, MOST, LEAST, 1, less, mark);
        gives("JLT", MOST, LEAST, 77, 2, less, mark);
        int[] zero = Ops.row(Ops.JZ, 1, 0, 2);
        gives("JZ", 4, 0, 4, 1, zero, mark);
        gives("JZ", 4, 1, 77, 2, zero, mark);
        gives("JZ", 0, -1, 77, 2, zero, mark);
        gives("JZ over one", 4, 0, 5, 2, zero, mark, Ops.row(Ops.INC, 0, 0, 1));
        gives("a sum by a loop", 0, 4, 10, 13,
            Ops.row(Ops.ADD, 0, 1, 0), Ops.row(Ops.INC, 1, 0, -1),
            Ops.row(Ops.JLT, 2, 1, 0), Ops.row(Ops.INC, 3, 0, 1));
    }

    private static void endsOutsideTheProgram() {
        int[] mark = Ops.row(Ops.SET, 0, 0, 77);
        int[] places = {-1, 2, 3, 12, 13, 100, MOST, LEAST};
        for (int place : places) {
            gives("JZ to " + place, 8, 0, 8, 1, Ops.row(Ops.JZ, 1, 0, place), mark);
            gives("JLT to " + place, 8, 9, 8, 1, Ops.row(Ops.JLT, 0, 1, place), mark);
        }
        gives("JZ to the last", 8, 0, 77, 2, Ops.row(Ops.JZ, 1, 0, 1), mark);
    }

    private static void endsAtOnceWithoutInstructions() {
        MutantLab lab = new MutantLab();
        lab.snapshotTest(5, 9);
        lab.test(5, 9, 5);
        lab.test(5, 9, 0);
        CHECK.due("no instructions: passes(0)", lab.passes(0), true);
        CHECK.due("no instructions: passes(1)", lab.passes(1), true);
        CHECK.due("no instructions: passes(2)", lab.passes(2), false);
    }

    private static void stoppedAfterAHundred() {
        stops("JZ to itself", 6, 0, Ops.row(Ops.JZ, 1, 0, 0));
        stops("JLT to itself", 6, 7, Ops.row(Ops.JLT, 0, 1, 0));
        // Two steps a round, one behind: 50 rounds would end with step 101.
        stops("50 rounds and one", 0, 50,
            Ops.row(Ops.INC, 0, 0, 1), Ops.row(Ops.JLT, 0, 1, 0), Ops.row(Ops.INC, 0, 0, 0));
        stops("51 rounds", 0, 51, Ops.row(Ops.INC, 0, 0, 1), Ops.row(Ops.JLT, 0, 1, 0));
    }

    private static void mayEndWithTheHundredth() {
        int[] up = Ops.row(Ops.INC, 0, 0, 1);
        int[] again = Ops.row(Ops.JLT, 0, 1, 0);
        gives("49 rounds", 0, 49, 49, 98, up, again);
        gives("49 rounds and one", 0, 49, 49, 99, up, again, Ops.row(Ops.INC, 0, 0, 0));
        gives("50 rounds", 0, 50, 50, 100, up, again);
        gives("49 rounds and two, the last one jumping out", 0, 49, 49, 100, up, again,
            Ops.row(Ops.INC, 2, 0, 0), Ops.row(Ops.JZ, 2, 0, -1));
    }

    private static void registersDoNotOutliveARun() {
        MutantLab lab = Ops.program(
            Ops.row(Ops.INC, 2, 0, 1), Ops.row(Ops.INC, 3, 0, 1),
            Ops.row(Ops.ADD, 0, 2, 0), Ops.row(Ops.ADD, 0, 3, 0));
        lab.test(4, 0, 6);
        lab.mutateOp(0, Ops.INC);
        for (int time = 0; time < 3; time++) {
            CHECK.due("run " + time + ": output", lab.output(0, 0), 6);
            CHECK.due("run " + time + ": passes", lab.passes(0), true);
        }
    }
}
