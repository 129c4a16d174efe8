import java.util.ArrayList;
import java.util.List;

/** The document told a second time, over lists and without a thought to speed; ModelTest holds the class against it. */
final class Model {
    private final List<int[]> program = new ArrayList<>();
    private final List<int[]> inputs = new ArrayList<>();
    private final List<Integer> expected = new ArrayList<>();
    private final List<int[]> changes = new ArrayList<>();
    private int steps = 0;

    int emit(int op, int regs, int c) {
        if (op < 0 || op > 7) {
            return -1;
        }
        if (program.size() == 12) {
            return -2;
        }
        program.add(new int[] {op, Math.floorMod(regs, 4), Math.floorMod(regs, 16) / 4, c});
        return program.size() - 1;
    }

    int test(int x, int y, Integer expects) {
        if (inputs.size() == 6) {
            return -2;
        }
        inputs.add(new int[] {x, y});
        expected.add(expects);
        return inputs.size() - 1;
    }

    int snapshotTest(int x, int y) {
        return test(x, y, outputOf(program, x, y));
    }

    int mutateOp(int p, int op) {
        return p < 0 || p >= program.size() ? -3 : op < 0 || op > 7 ? -1 : change(p, 0, op);
    }

    int mutateC(int p, int c) {
        return p < 0 || p >= program.size() ? -3 : change(p, 3, c);
    }

    private int change(int p, int field, int value) {
        if (changes.size() == 24) {
            return -2;
        }
        changes.add(new int[] {p, field, value});
        return changes.size() - 1;
    }

    void clear() {
        inputs.clear();
        expected.clear();
        changes.clear();
    }

    boolean passes(int test) {
        return hasTest(test) && fits(program, test);
    }

    int killers(int mutant) {
        if (!hasMutant(mutant)) {
            return -4;
        }
        int mask = 0;
        for (int t = 0; t < inputs.size(); t++) {
            mask += fits(mutated(mutant), t) ? 0 : 1 << t;
        }
        return mask;
    }

    int killed(int tests) {
        int count = 0;
        for (int m = 0; m < changes.size(); m++) {
            count += (killers(m) & tests) != 0 ? 1 : 0;
        }
        return count;
    }

    int output(int mutant, int test) {
        if (!hasMutant(mutant) || !hasTest(test)) {
            return 0;
        }
        Integer output = outputOn(mutated(mutant), test);
        return output == null ? 0 : output;
    }

    int length(int mutant, int test) {
        if (!hasMutant(mutant)) {
            return -4;
        }
        if (!hasTest(test)) {
            return -5;
        }
        outputOn(mutated(mutant), test);
        return steps;
    }

    int enough() {
        int all = killed(-1);
        int least = 6;
        for (int set = 0; set < 64; set++) {
            if (killed(set) == all) {
                least = Math.min(least, Integer.bitCount(set));
            }
        }
        return least;
    }

    int same() {
        int count = 0;
        for (int m = 0; m < changes.size(); m++) {
            boolean alike = true;
            for (int t = 0; t < inputs.size(); t++) {
                alike &= equal(outputOn(program, t), outputOn(mutated(m), t));
            }
            count += alike ? 1 : 0;
        }
        return count;
    }

    private boolean hasTest(int test) {
        return test >= 0 && test < inputs.size();
    }

    private boolean hasMutant(int mutant) {
        return mutant >= 0 && mutant < changes.size();
    }

    private List<int[]> mutated(int mutant) {
        int[] change = changes.get(mutant);
        List<int[]> copy = new ArrayList<>();
        for (int[] row : program) {
            copy.add(row.clone());
        }
        copy.get(change[0])[change[1]] = change[2];
        return copy;
    }

    private boolean fits(List<int[]> rows, int test) {
        return equal(outputOn(rows, test), expected.get(test));
    }

    private static boolean equal(Integer one, Integer other) {
        return one == null ? other == null : one.equals(other);
    }

    private Integer outputOn(List<int[]> rows, int test) {
        return outputOf(rows, inputs.get(test)[0], inputs.get(test)[1]);
    }

    /** Null stands for no output. */
    private Integer outputOf(List<int[]> rows, int x, int y) {
        long[] r = {x, y, 0, 0};
        long at = 0;
        for (steps = 0; at >= 0 && at < rows.size(); steps++) {
            if (steps == 100) {
                return null;
            }
            int[] row = rows.get((int) at);
            long a = r[row[1]];
            long b = r[row[2]];
            long c = row[3];
            at = row[0] == 5 && a < b || row[0] == 6 && a == 0 ? c : at + 1;
            long[] results = {c, a + b, a - b, a * b, Math.min(a, b), a, a, a + c};
            r[row[1]] = (int) results[row[0]];
        }
        return (int) r[0];
    }
}
