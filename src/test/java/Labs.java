/** Objects that hold a given number of each thing, made so that a change of any of them shows in some answer. */
final class Labs {
    private Labs() {
    }

    /** Without instructions there is no place for a mutant: then 'mutants' must be 0. */
    static MutantLab of(int instructions, int tests, int mutants) {
        MutantLab lab = new MutantLab();
        for (int i = 0; i < instructions; i++) {
            // The ADDs let y show in the output.
            lab.emit(isAdd(i) ? Ops.ADD : Ops.INC, Ops.regs(0, 1), 1 << i);
        }
        addTests(lab, tests);
        for (int m = 0; m < mutants; m++) {
            int p = m % instructions;
            if (isAdd(p)) {
                lab.mutateOp(p, m / instructions % 2 == 0 ? Ops.SUB : Ops.MUL);
            } else {
                lab.mutateC(p, 100000 + m);
            }
        }
        return lab;
    }

    private static boolean isAdd(int place) {
        return place % 4 == 1;
    }

    /** The last one is passed, and each second one before it: those between would show a snapshot in their place. */
    private static void addTests(MutantLab lab, int tests) {
        for (int t = 0; t < tests; t++) {
            int x = 1000000 * t;
            int y = 70 * t + 3;
            if ((tests - t) % 2 == 1) {
                lab.snapshotTest(x, y);
            } else {
                lab.test(x, y, -t);
            }
        }
    }

    /** Appends instructions that each add another power of 2 to R[0]: the output tells which were carried out. */
    static void addPowers(MutantLab lab, int from, int to) {
        for (int i = from; i < to; i++) {
            lab.emit(Ops.INC, 0, 1 << i);
        }
    }
}
