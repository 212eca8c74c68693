/** Long runs of mixed calls, each answer compared with the model's. */
public final class ModelTest {
    private static final int RUNS = 4000;
    // A step is at most two calls, and nothing is promised after an object's 512th.
    private static final int STEPS = 256;
    private static final Due due = new Due();
    private static long seed = 1;

    public static void main(String[] args) {
        for (int run = 0; run < RUNS && due.allRight(); run++) {
            due.part("run " + run);
            oneRun(run);
        }
        due.end();
    }

    private static void oneRun(int run) {
        ShardSearch x = new ShardSearch();
        Model model = new Model();
        int docs = run % 2 == 0 ? 16 : 5;
        for (int step = 0; step < STEPS && due.allRight(); step++) {
            oneStep(x, model, docs);
        }
    }

    private static void oneStep(ShardSearch x, Model model, int docs) {
        int doc = around(docs);
        int term = around(6);
        int node = around(6);
        switch (below(18)) {
            case 0, 1, 2, 3 -> {
                int count = around(10);
                due.is("put(" + doc + ", " + term + ", " + count + ")", x.put(doc, term, count), model.put(doc, term, count));
            }
            case 4 -> due.is("delete(" + doc + ")", x.delete(doc), model.delete(doc));
            case 5 -> due.is("refresh()", x.refresh(), model.refresh());
            case 6, 7 -> due.is("crash(" + node + ")", x.crash(node), model.crash(node));
            case 8, 9 -> due.is("restart(" + node + ")", x.restart(node), model.restart(node));
            case 10, 11 -> {
                int terms = below(4) == 0 ? (int) next() : below(64);
                int k = below(20) - 2;
                due.is("search(" + terms + ", " + k + ")", x.search(terms, k), model.search(terms, k));
            }
            case 12, 13, 14 -> {
                int i = below(2) == 0 ? below(4) : below(18) - 1;
                due.is("hit(" + i + ")", x.hit(i), model.hit(i));
                due.is("score(" + i + ")", x.score(i), model.score(i));
            }
            case 15 -> due.is("count(" + doc + ", " + term + ")", x.count(doc, term), model.count(doc, term));
            case 16 -> {
                int shard = around(3);
                due.is("open(" + shard + ")", x.open(shard), model.open(shard));
                due.is("inPlay()", x.inPlay(), model.inPlay());
            }
            default -> due.is("weight(" + term + ")", x.weight(term), model.weight(term));
        }
    }

    /** Mostly within 0 to size - 1, now and then just outside. */
    private static int around(int size) {
        return below(12) == 0 ? below(size + 2) - 1 : below(size);
    }

    private static int below(int bound) {
        return (int) ((next() >>> 1) % bound);
    }

    // A fixed sequence, so that every run of the test makes the same calls.
    private static long next() {
        seed = seed * 6364136223846793005L + 1442695040888963407L;
        return seed >>> 29;
    }
}
