import java.util.Random;

/** Runs of 512 calls, drawn with fixed seeds, in which every answer is held against the model's. */
public final class ModelTest {
    private static final int RUNS = 300;
    private static final int CALLS = 512;
    private static final int[] EDGES = {
        Integer.MIN_VALUE, Integer.MIN_VALUE + 1, -65536, -2, -1, 0, 1, 2, 65536, Integer.MAX_VALUE - 1, Integer.MAX_VALUE};

    private final Check check = new Check();
    private MutantLab lab;
    private Model model;
    private Random random;
    // How often a run clears and how often it only asks, drawn anew for each.
    private int clearing;
    private int asking;

    public static void main(String[] args) {
        ModelTest test = new ModelTest();
        for (int seed = 0; seed < RUNS; seed++) {
            test.run(seed);
        }
        test.check.end();
    }

    private void run(int seed) {
        lab = new MutantLab();
        model = new Model();
        random = new Random(seed);
        clearing = 1 + random.nextInt(60);
        asking = random.nextInt(60);
        int first = random.nextInt(13);
        for (int call = 0; call < first; call++) {
            emit("seed " + seed + " first " + call);
        }
        for (int call = first; call < CALLS; call++) {
            String where = "seed " + seed + " call " + call;
            if (random.nextInt(100) < asking) {
                ask(where);
            } else {
                change(where);
            }
        }
    }

    private void change(String where) {
        int kind = random.nextInt(60);
        int p = number(12);
        if (kind < 2) {
            emit(where);
        } else if (kind < 8) {
            int x = value();
            int y = value();
            int expects = random.nextInt(3) == 0 ? value() : model.output(number(24), number(6));
            check.due(where + " test", lab.test(x, y, expects), model.test(x, y, expects));
        } else if (kind < 16) {
            int x = value();
            int y = value();
            check.due(where + " snapshotTest", lab.snapshotTest(x, y), model.snapshotTest(x, y));
        } else if (kind < 37) {
            int op = op();
            check.due(where + " mutateOp", lab.mutateOp(p, op), model.mutateOp(p, op));
        } else if (kind < 58 || random.nextInt(clearing) != 0) {
            int c = value();
            check.due(where + " mutateC", lab.mutateC(p, c), model.mutateC(p, c));
        } else {
            lab.clear();
            model.clear();
        }
    }

    private void emit(String where) {
        int op = op();
        int regs = random.nextInt(4) == 0 ? random.nextInt() : random.nextInt(16);
        int c = value();
        check.due(where + " emit", lab.emit(op, regs, c), model.emit(op, regs, c));
    }

    private void ask(String where) {
        int mutant = number(24);
        int test = number(6);
        switch (random.nextInt(7)) {
            case 0:
                check.due(where + " passes", lab.passes(test), model.passes(test));
                break;
            case 1:
                check.due(where + " killers", lab.killers(mutant), model.killers(mutant));
                break;
            case 2:
                int set = random.nextBoolean() ? random.nextInt(64) : random.nextInt();
                check.due(where + " killed", lab.killed(set), model.killed(set));
                break;
            case 3:
                check.due(where + " output", lab.output(mutant, test), model.output(mutant, test));
                break;
            case 4:
                check.due(where + " length", lab.length(mutant, test), model.length(mutant, test));
                break;
            case 5:
                check.due(where + " same", lab.same(), model.same());
                break;
            default:
                // The model is slow here, so most of these are left to another call.
                if (random.nextInt(4) == 0) {
                    check.due(where + " enough", lab.enough(), model.enough());
                }
                break;
        }
    }

    private int op() {
        return random.nextInt(30) == 0 ? edge() : random.nextInt(8);
    }

    private int number(int below) {
        return random.nextInt(30) == 0 ? edge() : random.nextInt(below + 1);
    }

    private int value() {
        int kind = random.nextInt(12);
        return kind == 0 ? edge() : kind == 1 ? random.nextInt() : random.nextInt(16) - 2;
    }

    private int edge() {
        return EDGES[random.nextInt(EDGES.length)];
    }
}
