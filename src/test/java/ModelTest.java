/**
 * Long runs of mixed calls against a model that keeps, unlike the class, every copy's
 * own log of changes: a copy is current when its log is as long as the shard's.
 */
public final class ModelTest {
    private static final int RUNS = 4000;
    // A step is at most two calls, and nothing is promised after an object's 512th.
    private static final int STEPS = 256;
    private static final Due due = new Due();
    private static long seed = 1;

    public static void main(String[] args) {
        for (int run = 0; run < RUNS && due.allRight(); run++) {
            due.part("run " + run);
            oneRun(run);
        }
        due.end();
    }

    private static void oneRun(int run) {
        ShardSearch x = new ShardSearch();
        Model model = new Model();
        int docs = run % 2 == 0 ? 16 : 5;
        for (int step = 0; step < STEPS && due.allRight(); step++) {
            oneStep(x, model, docs);
        }
    }

    private static void oneStep(ShardSearch x, Model model, int docs) {
        int doc = around(docs);
        int term = around(6);
        int node = around(6);
        switch (below(18)) {
            case 0, 1, 2, 3 -> {
                int count = around(10);
                due.is("put(" + doc + ", " + term + ", " + count + ")", x.put(doc, term, count), model.put(doc, term, count));
            }
            case 4 -> due.is("delete(" + doc + ")", x.delete(doc), model.delete(doc));
            case 5 -> due.is("refresh()", x.refresh(), model.refresh());
            case 6, 7 -> due.is("crash(" + node + ")", x.crash(node), model.crash(node));
            case 8, 9 -> due.is("restart(" + node + ")", x.restart(node), model.restart(node));
            case 10, 11 -> {
                int terms = below(4) == 0 ? (int) next() : below(64);
                int k = below(20) - 2;
                due.is("search(" + terms + ", " + k + ")", x.search(terms, k), model.search(terms, k));
            }
            case 12, 13, 14 -> {
                int i = below(2) == 0 ? below(4) : below(18) - 1;
                due.is("hit(" + i + ")", x.hit(i), model.hit(i));
                due.is("score(" + i + ")", x.score(i), model.score(i));
            }
            case 15 -> due.is("count(" + doc + ", " + term + ")", x.count(doc, term), model.count(doc, term));
            case 16 -> {
                int shard = around(3);
                due.is("open(" + shard + ")", x.open(shard), model.open(shard));
                due.is("inPlay()", x.inPlay(), model.inPlay());
            }
            default -> due.is("weight(" + term + ")", x.weight(term), model.weight(term));
        }
    }

    /** Mostly within 0 to size - 1, now and then just outside. */
    private static int around(int size) {
        return below(12) == 0 ? below(size + 2) - 1 : below(size);
    }

    private static int below(int bound) {
        return (int) ((next() >>> 1) % bound);
    }

    // A fixed sequence, so that every run of the test makes the same calls.
    private static long next() {
        seed = seed * 6364136223846793005L + 1442695040888963407L;
        return seed >>> 29;
    }

    private static final class Model {
        private final java.util.List<java.util.List<int[]>> logs = new java.util.ArrayList<>();
        private final boolean[] up = {true, true, true, true, true, true};
        private final int[] changes = new int[3];
        private final int[][] searchable = new int[16][];
        private java.util.List<int[]> kept = new java.util.ArrayList<>();

        Model() {
            for (int node = 0; node < 6; node++) {
                logs.add(new java.util.ArrayList<>());
            }
        }

        int put(int doc, int term, int count) {
            if (doc < 0 || doc > 15) return -1;
            if (term < 0 || term > 5 || count < 0 || count > 9) return -2;
            if (!open(doc % 3)) return -3;
            int[] old = replay(doc);
            change(doc % 3, new int[] {doc, term, count});
            return old == null ? 0 : old[term];
        }

        int delete(int doc) {
            if (doc < 0 || doc > 15) return -1;
            if (!open(doc % 3)) return -3;
            if (replay(doc) == null) return -5;
            change(doc % 3, new int[] {doc});
            return 0;
        }

        int refresh() {
            int refreshed = 0;
            for (int shard = 0; shard < 3; shard++) {
                if (open(shard)) {
                    refreshed++;
                    for (int doc = shard; doc < 16; doc += 3) searchable[doc] = replay(doc);
                }
            }
            return refreshed;
        }

        int crash(int node) {
            if (node < 0 || node > 5) return -4;
            int was = up[node] ? 1 : 0;
            up[node] = false;
            return was;
        }

        int restart(int node) {
            if (node < 0 || node > 5) return -4;
            int was = up[node] ? 0 : 1;
            up[node] = true;
            int source = source(node % 3);
            for (int copy = node % 3; copy < 6 && source >= 0; copy += 3) {
                if (up[copy]) logs.set(copy, new java.util.ArrayList<>(logs.get(source)));
            }
            return was;
        }

        int search(int terms, int k) {
            java.util.List<int[]> hits = new java.util.ArrayList<>();
            for (int doc = 0; doc < 16; doc++) {
                int sum = 0;
                for (int term = 0; term < 6; term++) {
                    if (plays(doc) && (terms >> term & 1) == 1) sum += searchable[doc][term] * weight(term);
                }
                if (sum > 0) hits.add(new int[] {doc, sum});
            }
            hits.sort((a, b) -> a[1] != b[1] ? b[1] - a[1] : a[0] - b[0]);
            int most = Math.max(0, Math.min(16, k));
            kept = hits.subList(0, Math.min(most, hits.size()));
            return kept.size();
        }

        int hit(int i) {
            return i < 0 || i >= kept.size() ? -6 : kept.get(i)[0];
        }

        int score(int i) {
            return i < 0 || i >= kept.size() ? 0 : kept.get(i)[1];
        }

        int count(int doc, int term) {
            if (doc < 0 || doc > 15) return -1;
            if (term < 0 || term > 5) return -2;
            if (!open(doc % 3)) return -3;
            int[] counts = replay(doc);
            return counts == null ? -5 : counts[term];
        }

        boolean open(int shard) {
            return shard >= 0 && shard <= 2 && source(shard) >= 0;
        }

        int inPlay() {
            int playing = 0;
            for (int doc = 0; doc < 16; doc++) playing += plays(doc) ? 1 : 0;
            return playing;
        }

        int weight(int term) {
            if (term < 0 || term > 5) return -2;
            int having = 0;
            for (int doc = 0; doc < 16; doc++) having += plays(doc) && searchable[doc][term] > 0 ? 1 : 0;
            return having == 0 ? 0 : 16 * inPlay() / having;
        }

        private boolean plays(int doc) {
            return open(doc % 3) && searchable[doc] != null;
        }

        /** The node of a current copy that is up, or -1. */
        private int source(int shard) {
            for (int node = shard; node < 6; node += 3) {
                if (up[node] && logs.get(node).size() == changes[shard]) return node;
            }
            return -1;
        }

        private void change(int shard, int[] entry) {
            for (int node = shard; node < 6; node += 3) {
                if (up[node]) logs.get(node).add(entry);
            }
            changes[shard]++;
        }

        /** The document's counts by the log of a current copy that is up; null if it doesn't exist. */
        private int[] replay(int doc) {
            int[] counts = null;
            for (int[] entry : logs.get(source(doc % 3))) {
                if (entry[0] == doc && entry.length == 1) {
                    counts = null;
                } else if (entry[0] == doc) {
                    if (counts == null) counts = new int[6];
                    counts[entry[1]] = entry[2];
                }
            }
            return counts;
        }
    }
}
