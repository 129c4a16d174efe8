/** README.md: the calls of its example, line by line, with the answers that stand behind them there. */
public final class ReadmeTest {
    public static void main(String[] args) {
        Check check = new Check();
        MutantLab lab = new MutantLab();
        check.due("emit(1, 4, 0)", lab.emit(1, 4, 0), 0);
        check.due("snapshotTest(2, 2)", lab.snapshotTest(2, 2), 0);
        check.due("test(2, 3, 5)", lab.test(2, 3, 5), 1);
        check.due("passes(1)", lab.passes(1), true);
        check.due("mutateOp(0, 3)", lab.mutateOp(0, 3), 0);
        check.due("mutateC(0, 9)", lab.mutateC(0, 9), 1);
        check.due("killers(0)", lab.killers(0), 2);
        check.due("killed(3)", lab.killed(3), 1);
        check.due("output(0, 1)", lab.output(0, 1), 6);
        check.due("length(0, 1)", lab.length(0, 1), 1);
        check.due("enough()", lab.enough(), 1);
        check.due("same()", lab.same(), 1);
        check.due("mutateOp(1, 3)", lab.mutateOp(1, 3), MutantLab.BAD_PLACE);
        check.due("length(0, 6)", lab.length(0, 6), MutantLab.NO_TEST);
        check.end();
    }
}
