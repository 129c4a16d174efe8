import java.util.List;

/** Counts the answers that are not as due; each test makes one and ends with it. */
final class Check {
    private int wrong = 0;
    private int looked = 0;

    void due(String call, long got, long want) {
        looked++;
        if (got != want) {
            wrong++;
            System.out.println(call + " answered " + got + ", due is " + want);
        }
    }

    void due(String call, boolean got, boolean want) {
        due(call, got ? 1L : 0L, want ? 1L : 0L);
    }

    void holds(String what, boolean truth) {
        due(what, truth, true);
    }

    /** Uses both objects up, as Answers.of says. */
    void alike(String what, MutantLab got, MutantLab want) {
        List<String> gotAnswers = Answers.of(got);
        List<String> wantAnswers = Answers.of(want);
        looked++;
        for (int i = 0; i < wantAnswers.size(); i++) {
            if (!gotAnswers.get(i).equals(wantAnswers.get(i))) {
                wrong++;
                System.out.println(what + ": " + gotAnswers.get(i) + ", due is " + wantAnswers.get(i));
                return;
            }
        }
    }

    void end() {
        System.out.println(looked + " answers, " + wrong + " not as due");
        if (wrong != 0 || looked == 0) {
            System.exit(1);
        }
    }
}
