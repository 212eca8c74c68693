import java.util.ArrayList;
import java.util.List;
import java.util.Map;
import java.util.Set;
import java.util.TreeMap;
import java.util.TreeSet;

/**
 * Refused calls, crashes and restarts of nodes that are so already, and the calls that only ask:
 * an object that got such a call answers all later calls as its twin does, which did not get it.
 */
public final class NothingChangesTest {
    private static final int[] VALUES = {
        Integer.MIN_VALUE, Integer.MIN_VALUE + 1, -65536, -256, -16, -6, -3, -1,
        0, 1, 2, 3, 4, 5, 6, 9, 10, 15, 16, 17, 256, 65536, Integer.MAX_VALUE - 1, Integer.MAX_VALUE,
    };
    private static final int RUNS = 2000;
    // Nothing is promised after an object's 512th call.
    private static final int CALLS = 512;
    private static final Due due = new Due();
    private static long seed = 7;

    public static void main(String[] args) {
        Set<String> made = new TreeSet<>();
        for (Map.Entry<String, int[][]> state : states().entrySet()) {
            inState(state.getKey(), state.getValue(), made);
        }
        everyKindIsMade(made);
        for (int run = 0; run < RUNS && due.allRight(); run++) {
            mixedRun(run);
        }
        due.end();
    }

    private static void inState(String name, int[][] state, Set<String> made) {
        int[][][] probes = probes();
        int[][] quiet = new int[probes.length][];
        for (int i = 0; i < probes.length; i++) {
            quiet[i] = answers(state, null, probes[i]);
        }
        for (int[] call : callsWithValues()) {
            int want = Calls.make(modelIn(state), call);
            if (changesNothing(call, want) && due.allRight()) {
                due.part(sentence(call) + ", after " + Calls.text(call) + " in state: " + name);
                due.is("the call itself", Calls.make(objectIn(state), call), want);
                for (int i = 0; i < probes.length; i++) {
                    compare(probes[i], answers(state, call, probes[i]), quiet[i]);
                }
                made.add(Calls.name(call) + " " + want);
            }
        }
    }

    private static void compare(int[][] probe, int[] got, int[] want) {
        for (int i = 0; i < probe.length; i++) {
            due.is("later " + Calls.text(probe[i]), got[i], want[i]);
        }
    }

    private static String sentence(int[] call) {
        return switch (call[0]) {
            case Calls.PUT -> "Promise 2: \"BAD_DOC ... BAD_TERM ... CLOSED; nothing changes then\"";
            case Calls.DELETE -> "Promise 3: \"BAD_DOC; CLOSED; it doesn't exist: NO_DOC; nothing changes then\"";
            case Calls.CRASH -> "Promise 5: \"BAD_NODE. Else answers 1 if it was up, 0 if not\"";
            case Calls.RESTART -> "Promise 6: \"BAD_NODE. Else answers 1 if it was down, 0 if not\"";
            default -> "Terms: \"The calls below change nothing that any call answers\"";
        };
    }

    /** Without this an answer that no state brings about would go untested unseen. */
    private static void everyKindIsMade(Set<String> made) {
        String[] wanted = {
            "put " + ShardSearch.BAD_DOC, "put " + ShardSearch.BAD_TERM, "put " + ShardSearch.CLOSED,
            "delete " + ShardSearch.BAD_DOC, "delete " + ShardSearch.CLOSED, "delete " + ShardSearch.NO_DOC,
            "crash " + ShardSearch.BAD_NODE, "crash 0", "restart " + ShardSearch.BAD_NODE, "restart 0",
            "hit " + ShardSearch.NONE, "hit 0", "score 0", "score 864", "open 0", "open 1", "inPlay 0", "inPlay 16",
            "count " + ShardSearch.BAD_DOC, "count " + ShardSearch.BAD_TERM,
            "count " + ShardSearch.CLOSED, "count " + ShardSearch.NO_DOC, "count 0", "count 9",
            "weight " + ShardSearch.BAD_TERM, "weight 0", "weight 16",
        };
        due.part("answers that the test brings about");
        for (String want : wanted) {
            due.is(want, made.contains(want), true);
        }
    }

    /** One object gets all calls, the other those that change something and half of those that only ask. */
    private static void mixedRun(int run) {
        due.part("mixed run " + run);
        ShardSearch all = new ShardSearch();
        ShardSearch some = new ShardSearch();
        Model model = new Model();
        for (int i = 0; i < CALLS && due.allRight(); i++) {
            int[] call = mixedCall();
            int want = Calls.make(model, call);
            due.is(Calls.text(call) + " as call " + i, Calls.make(all, call), want);
            boolean asks = call[0] >= Calls.HIT;
            if (!changesNothing(call, want) || asks && below(2) == 0) {
                due.is(Calls.text(call) + " without some calls before", Calls.make(some, call), want);
            }
        }
    }

    private static int[] mixedCall() {
        int doc = mixedValue(16);
        int term = mixedValue(6);
        int node = mixedValue(6);
        return switch (below(16)) {
            case 0, 1, 2, 3 -> new int[] {Calls.PUT, doc, term, mixedValue(10)};
            case 4 -> new int[] {Calls.DELETE, doc};
            case 5 -> new int[] {Calls.REFRESH};
            case 6, 7 -> new int[] {Calls.CRASH, node};
            case 8, 9 -> new int[] {Calls.RESTART, node};
            case 10 -> new int[] {Calls.SEARCH, below(64), mixedValue(17)};
            case 11 -> new int[] {Calls.HIT, mixedValue(16)};
            case 12 -> new int[] {Calls.SCORE, mixedValue(16)};
            case 13 -> new int[] {Calls.COUNT, doc, term};
            case 14 -> new int[] {Calls.OPEN, mixedValue(3)};
            default -> new int[] {Calls.WEIGHT, term};
        };
    }

    private static int mixedValue(int size) {
        return below(5) == 0 ? VALUES[below(VALUES.length)] : below(size);
    }

    private static int below(int bound) {
        seed = seed * 6364136223846793005L + 1442695040888963407L;
        return (int) ((seed >>> 33) % bound);
    }

    private static boolean changesNothing(int[] call, int answer) {
        return switch (call[0]) {
            case Calls.PUT, Calls.DELETE -> answer < 0;
            case Calls.CRASH, Calls.RESTART -> answer <= 0;
            case Calls.REFRESH, Calls.SEARCH -> false;
            default -> true;
        };
    }

    private static List<int[]> callsWithValues() {
        int[] oneArgument = {Calls.DELETE, Calls.CRASH, Calls.RESTART, Calls.HIT, Calls.SCORE, Calls.OPEN, Calls.WEIGHT};
        List<int[]> calls = new ArrayList<>();
        calls.add(new int[] {Calls.IN_PLAY});
        for (int a : VALUES) {
            for (int call : oneArgument) {
                calls.add(new int[] {call, a});
            }
            for (int b : VALUES) {
                calls.add(new int[] {Calls.COUNT, a, b});
                calls.add(new int[] {Calls.PUT, a, b, 1});
                calls.add(new int[] {Calls.PUT, a, 5, b});
                calls.add(new int[] {Calls.PUT, 0, a, b});
                calls.add(new int[] {Calls.PUT, 15, a, b});
            }
        }
        return calls;
    }

    private static ShardSearch objectIn(int[][] state) {
        ShardSearch x = new ShardSearch();
        for (int[] call : state) {
            Calls.make(x, call);
        }
        return x;
    }

    private static Model modelIn(int[][] state) {
        Model x = new Model();
        for (int[] call : state) {
            Calls.make(x, call);
        }
        return x;
    }

    private static int[] answers(int[][] state, int[] call, int[][] probe) {
        ShardSearch x = objectIn(state);
        if (call != null) {
            Calls.make(x, call);
        }
        int[] answers = new int[probe.length];
        for (int i = 0; i < probe.length; i++) {
            answers[i] = Calls.make(x, probe[i]);
        }
        return answers;
    }

    private static Map<String, int[][]> states() {
        Map<String, int[][]> states = new TreeMap<>();
        states.put("new", new int[0][]);
        states.put("documents, not refreshed", documents());
        states.put("hits kept", join(documents(), new int[][] {{Calls.REFRESH}, {Calls.SEARCH, 63, 3}}));
        states.put("hits kept and changed since", join(documents(), new int[][] {
            {Calls.REFRESH}, {Calls.SEARCH, 63, 16}, {Calls.PUT, 0, 0, 9}, {Calls.DELETE, 1}, {Calls.PUT, 5, 5, 5},
        }));
        states.put("full", join(full(), new int[][] {{Calls.REFRESH}, {Calls.SEARCH, 63, 16}}));
        states.put("one copy of each shard down and current", join(documents(), new int[][] {
            {Calls.REFRESH}, {Calls.SEARCH, 3, 16}, {Calls.CRASH, 0}, {Calls.CRASH, 4}, {Calls.CRASH, 5},
        }));
        states.put("one copy of each shard down and not current", join(documents(), new int[][] {
            {Calls.REFRESH}, {Calls.SEARCH, 3, 16}, {Calls.CRASH, 3}, {Calls.CRASH, 1}, {Calls.CRASH, 2},
            {Calls.PUT, 0, 0, 7}, {Calls.PUT, 1, 1, 7}, {Calls.PUT, 2, 2, 7},
        }));
        states.put("shard 0 closed, both copies current", join(documents(), new int[][] {
            {Calls.REFRESH}, {Calls.SEARCH, 3, 16}, {Calls.PUT, 0, 0, 7}, {Calls.CRASH, 0}, {Calls.CRASH, 3},
        }));
        states.put("shard 0 closed, a copy up that isn't current", join(documents(), new int[][] {
            {Calls.REFRESH}, {Calls.SEARCH, 3, 16}, {Calls.CRASH, 3}, {Calls.PUT, 0, 0, 7}, {Calls.CRASH, 0}, {Calls.RESTART, 3},
        }));
        states.put("shards 1 and 2 closed", join(documents(), new int[][] {
            {Calls.CRASH, 1}, {Calls.PUT, 1, 0, 7}, {Calls.CRASH, 4}, {Calls.RESTART, 1}, {Calls.CRASH, 2}, {Calls.CRASH, 5},
        }));
        states.put("all down", join(documents(), new int[][] {
            {Calls.REFRESH}, {Calls.SEARCH, 63, 16}, {Calls.CRASH, 0}, {Calls.CRASH, 1}, {Calls.CRASH, 2},
            {Calls.CRASH, 3}, {Calls.CRASH, 4}, {Calls.CRASH, 5},
        }));
        return states;
    }

    /** Documents 0, 1, 2, 5, 9 and 15, so that some of each shard exist and some don't. */
    private static int[][] documents() {
        return new int[][] {
            {Calls.PUT, 0, 0, 1}, {Calls.PUT, 1, 0, 2}, {Calls.PUT, 2, 1, 3}, {Calls.PUT, 5, 2, 0},
            {Calls.PUT, 9, 1, 9}, {Calls.PUT, 9, 5, 4}, {Calls.PUT, 15, 5, 9}, {Calls.PUT, 15, 0, 1},
        };
    }

    private static int[][] full() {
        List<int[]> puts = new ArrayList<>();
        for (int doc = 0; doc <= 15; doc++) {
            for (int term = 0; term <= 5; term++) {
                puts.add(new int[] {Calls.PUT, doc, term, 9});
            }
        }
        return puts.toArray(new int[0][]);
    }

    /** Later calls that tell any change: to what is kept, to the documents, to the searchable ones, to the copies. */
    private static int[][][] probes() {
        int[][] allUp = {
            {Calls.RESTART, 0}, {Calls.RESTART, 1}, {Calls.RESTART, 2}, {Calls.RESTART, 3}, {Calls.RESTART, 4}, {Calls.RESTART, 5},
        };
        int[][] firstCopiesAlone = {
            {Calls.CRASH, 0}, {Calls.CRASH, 1}, {Calls.CRASH, 2}, {Calls.CRASH, 3}, {Calls.CRASH, 4}, {Calls.CRASH, 5},
            {Calls.RESTART, 0}, {Calls.RESTART, 1}, {Calls.RESTART, 2},
        };
        int[][] secondCopiesAlone = {
            {Calls.CRASH, 0}, {Calls.CRASH, 1}, {Calls.CRASH, 2}, {Calls.CRASH, 3}, {Calls.CRASH, 4}, {Calls.CRASH, 5},
            {Calls.RESTART, 3}, {Calls.RESTART, 4}, {Calls.RESTART, 5},
        };
        return new int[][][] {
            look(),
            join(allUp, look()),
            join(allUp, new int[][] {{Calls.REFRESH}}, look()),
            join(firstCopiesAlone, look()),
            join(secondCopiesAlone, look()),
        };
    }

    private static int[][] look() {
        List<int[]> calls = new ArrayList<>();
        addHits(calls);
        calls.add(new int[] {Calls.IN_PLAY});
        for (int shard = 0; shard <= 2; shard++) {
            calls.add(new int[] {Calls.OPEN, shard});
        }
        for (int term = 0; term <= 5; term++) {
            calls.add(new int[] {Calls.WEIGHT, term});
            for (int doc = 0; doc <= 15; doc++) {
                calls.add(new int[] {Calls.COUNT, doc, term});
            }
        }
        for (int term = 0; term <= 5; term++) {
            calls.add(new int[] {Calls.SEARCH, 1 << term, 16});
            addHits(calls);
        }
        return calls.toArray(new int[0][]);
    }

    private static void addHits(List<int[]> calls) {
        for (int i = 0; i <= 15; i++) {
            calls.add(new int[] {Calls.HIT, i});
            calls.add(new int[] {Calls.SCORE, i});
        }
    }

    private static int[][] join(int[][]... parts) {
        List<int[]> calls = new ArrayList<>();
        for (int[][] part : parts) {
            calls.addAll(List.of(part));
        }
        return calls.toArray(new int[0][]);
    }
}
