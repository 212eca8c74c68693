/**
 * Every run of up to seven changes, refreshes, crashes and restarts on one shard, in every order:
 * the last call's answer, and all that can be asked after it, compared with the model's.
 */
public final class EveryOrderTest {
    private static final int LONGEST = 7;
    private static final int KINDS = 7;
    private static final int[][] QUESTIONS = {
        {Calls.OPEN, 0}, {Calls.OPEN, 1}, {Calls.OPEN, 2},
        {Calls.COUNT, 12, 4}, {Calls.COUNT, 13, 4}, {Calls.COUNT, 14, 4},
        {Calls.IN_PLAY}, {Calls.WEIGHT, 4},
        {Calls.SEARCH, 16, 16}, {Calls.HIT, 0}, {Calls.SCORE, 0},
    };
    private static final Due due = new Due();

    public static void main(String[] args) {
        for (int shard = 0; shard <= 2; shard++) {
            int runs = 1;
            for (int length = 0; length <= LONGEST; length++) {
                for (int run = 0; run < runs && due.allRight(); run++) {
                    oneRun(calls(shard, length, run));
                }
                runs *= KINDS;
            }
        }
        due.end();
    }

    /** The run of this number, which has a digit of base KINDS for each of its calls. */
    private static int[][] calls(int shard, int length, int run) {
        int[][] calls = new int[length][];
        int digits = run;
        for (int i = 0; i < length; i++) {
            // The count grows with the place in the run, so that no put leaves a count as it was.
            calls[i] = switch (digits % KINDS) {
                case 0 -> new int[] {Calls.PUT, shard + 12, 4, i + 1};
                case 1 -> new int[] {Calls.DELETE, shard + 12};
                case 2 -> new int[] {Calls.REFRESH};
                case 3 -> new int[] {Calls.CRASH, shard};
                case 4 -> new int[] {Calls.CRASH, shard + 3};
                case 5 -> new int[] {Calls.RESTART, shard};
                default -> new int[] {Calls.RESTART, shard + 3};
            };
            digits /= KINDS;
        }
        return calls;
    }

    // The answers ahead of the last call were compared when the shorter runs were made.
    private static void oneRun(int[][] calls) {
        ShardSearch x = new ShardSearch();
        Model model = new Model();
        int got = 0;
        int want = 0;
        for (int[] call : calls) {
            got = Calls.make(x, call);
            want = Calls.make(model, call);
        }
        if (got != want) {
            due.part(text(calls));
            due.is("the last call", got, want);
        }
        for (int[] call : QUESTIONS) {
            int answer = Calls.make(x, call);
            int answerDue = Calls.make(model, call);
            if (answer != answerDue) {
                due.part("after " + text(calls));
                due.is(Calls.text(call), answer, answerDue);
            }
        }
    }

    private static String text(int[][] calls) {
        StringBuilder text = new StringBuilder();
        for (int[] call : calls) {
            text.append(Calls.text(call)).append(' ');
        }
        return text.toString().trim();
    }
}
