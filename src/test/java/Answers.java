import java.util.ArrayList;
import java.util.List;

/** What an object answers to every call that only asks, and to one of each call that adds. */
final class Answers {
    private Answers() {
    }

    /** Spends 357 of the object's 512 calls, and fills it up: nothing is to be asked of it afterwards. */
    static List<String> of(MutantLab lab) {
        List<String> lines = new ArrayList<>();
        for (int t = -1; t <= 6; t++) {
            lines.add("passes(" + t + ") " + lab.passes(t));
        }
        for (int m = -1; m <= 24; m++) {
            lines.add("killers(" + m + ") " + lab.killers(m));
            for (int t = 0; t < 6; t++) {
                lines.add("output(" + m + ", " + t + ") " + lab.output(m, t));
                lines.add("length(" + m + ", " + t + ") " + lab.length(m, t));
            }
        }
        for (int t = 0; t < 6; t++) {
            lines.add("killed(" + (1 << t) + ") " + lab.killed(1 << t));
        }
        lines.add("enough() " + lab.enough());
        lines.add("same() " + lab.same());
        lines.add("test(3, 4, 5) " + lab.test(3, 4, 5));
        lines.add("mutateC(0, 6) " + lab.mutateC(0, 6));
        lines.add("emit(7, 0, 1) " + lab.emit(Ops.INC, 0, 1));
        return lines;
    }
}
