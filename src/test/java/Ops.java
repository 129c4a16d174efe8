/** The ops by name, and programs made of rows of op, a, b, c. */
final class Ops {
    static final int SET = 0;
    static final int ADD = 1;
    static final int SUB = 2;
    static final int MUL = 3;
    static final int MIN = 4;
    static final int JLT = 5;
    static final int JZ = 6;
    static final int INC = 7;

    private Ops() {
    }

    static int regs(int a, int b) {
        return a | b << 2;
    }

    static MutantLab program(int[]... rows) {
        MutantLab lab = new MutantLab();
        for (int[] row : rows) {
            lab.emit(row[0], regs(row[1], row[2]), row[3]);
        }
        return lab;
    }

    static int[] row(int op, int a, int b, int c) {
        return new int[] {op, a, b, c};
    }
}
