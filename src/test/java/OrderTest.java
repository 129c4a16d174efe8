/**
 * Promise 15: "emit, mutateOp, mutateC and length: the answers below 0 are tested in the order in which they are
 * named." Where two or three of them are due, the one that is named first is given.
 */
public final class OrderTest {
    private static final Check CHECK = new Check();
    private static final int[] BAD_OPS = {-1, 8, Integer.MAX_VALUE, Integer.MIN_VALUE};
    private static final int[] BAD_NUMBERS = {-1, 24, Integer.MAX_VALUE, Integer.MIN_VALUE};

    public static void main(String[] args) {
        emitNamesTheOpFirst();
        mutateOpNamesThePlaceThenTheOp();
        mutateCNamesThePlaceFirst();
        lengthNamesTheMutantFirst();
        everyPairOfBadArguments();
        CHECK.end();
    }

    private static MutantLab fullProgram() {
        MutantLab lab = new MutantLab();
        for (int i = 0; i < 12; i++) {
            lab.emit(Ops.INC, 0, 1);
        }
        return lab;
    }

    private static MutantLab withFullMutants() {
        MutantLab lab = Ops.program(Ops.row(Ops.INC, 0, 0, 1));
        for (int m = 0; m < 24; m++) {
            lab.mutateC(0, m);
        }
        return lab;
    }

    private static void emitNamesTheOpFirst() {
        MutantLab lab = fullProgram();
        CHECK.due("full: emit(8, 0, 0)", lab.emit(8, 0, 0), MutantLab.BAD_OP);
        CHECK.due("full: emit(-1, 0, 0)", lab.emit(-1, 0, 0), MutantLab.BAD_OP);
        CHECK.due("full: emit(7, 0, 0)", lab.emit(7, 0, 0), MutantLab.FULL);
    }

    private static void mutateOpNamesThePlaceThenTheOp() {
        MutantLab few = Ops.program(Ops.row(Ops.INC, 0, 0, 1));
        CHECK.due("mutateOp(1, 8)", few.mutateOp(1, 8), MutantLab.BAD_PLACE);
        CHECK.due("mutateOp(-1, -1)", few.mutateOp(-1, -1), MutantLab.BAD_PLACE);
        MutantLab full = withFullMutants();
        CHECK.due("full: mutateOp(1, 8)", full.mutateOp(1, 8), MutantLab.BAD_PLACE);
        CHECK.due("full: mutateOp(1, 0)", full.mutateOp(1, 0), MutantLab.BAD_PLACE);
        CHECK.due("full: mutateOp(-1, 0)", full.mutateOp(-1, 0), MutantLab.BAD_PLACE);
        CHECK.due("full: mutateOp(0, 8)", full.mutateOp(0, 8), MutantLab.BAD_OP);
        CHECK.due("full: mutateOp(0, -1)", full.mutateOp(0, -1), MutantLab.BAD_OP);
        CHECK.due("full: mutateOp(0, 0)", full.mutateOp(0, 0), MutantLab.FULL);
    }

    private static void mutateCNamesThePlaceFirst() {
        MutantLab full = withFullMutants();
        CHECK.due("full: mutateC(1, 0)", full.mutateC(1, 0), MutantLab.BAD_PLACE);
        CHECK.due("full: mutateC(-1, 0)", full.mutateC(-1, 0), MutantLab.BAD_PLACE);
        CHECK.due("full: mutateC(0, 0)", full.mutateC(0, 0), MutantLab.FULL);
    }

    private static void lengthNamesTheMutantFirst() {
        MutantLab lab = Ops.program(Ops.row(Ops.INC, 0, 0, 1));
        CHECK.due("nothing: length(0, 0)", lab.length(0, 0), MutantLab.NO_MUTANT);
        lab.test(0, 0, 0);
        CHECK.due("a test: length(0, 0)", lab.length(0, 0), MutantLab.NO_MUTANT);
        lab.mutateC(0, 2);
        CHECK.due("both: length(1, 1)", lab.length(1, 1), MutantLab.NO_MUTANT);
        CHECK.due("both: length(-1, -1)", lab.length(-1, -1), MutantLab.NO_MUTANT);
        CHECK.due("both: length(0, 1)", lab.length(0, 1), MutantLab.NO_TEST);
        CHECK.due("both: length(0, 0)", lab.length(0, 0), 1);
    }

    /** The same with both arguments bad in every way, on an empty object, on one with little and on a full one. */
    private static void everyPairOfBadArguments() {
        int[][] sizes = {{0, 0, 0}, {1, 1, 1}, {12, 6, 24}};
        for (int[] size : sizes) {
            MutantLab lab = Labs.of(size[0], size[1], size[2]);
            String held = size[0] + " instructions: ";
            for (int bad : BAD_NUMBERS) {
                for (int op : BAD_OPS) {
                    CHECK.due(held + "mutateOp(" + bad + ", " + op + ")", lab.mutateOp(bad, op), MutantLab.BAD_PLACE);
                    CHECK.due(held + "emit(" + op + ", 0, " + bad + ")", lab.emit(op, 0, bad), MutantLab.BAD_OP);
                }
                for (int test : BAD_NUMBERS) {
                    CHECK.due(held + "length(" + bad + ", " + test + ")", lab.length(bad, test), MutantLab.NO_MUTANT);
                }
                CHECK.due(held + "mutateC(" + bad + ", 0)", lab.mutateC(bad, 0), MutantLab.BAD_PLACE);
            }
        }
    }
}
