public final class ShardSearch {
    public static final int BAD_DOC = -1;
    public static final int BAD_TERM = -2;
    public static final int CLOSED = -3;
    public static final int BAD_NODE = -4;
    public static final int NO_DOC = -5;
    public static final int NONE = -6;

    private static final int DOCS = 16;
    private static final int TERMS = 6;
    private static final int COUNTS = 96;
    private static final int GREATEST_COUNT = 9;
    private static final int SHARDS = 3;
    private static final int NODES = 6;
    private static final int WEIGHT_UNIT = 16;

    // Each node holds one copy, so a copy goes by the number of its node.
    private final boolean[] up = new boolean[NODES];
    private final boolean[] current = new boolean[NODES];

    // All current copies of a shard are alike and no other copy is ever read,
    // so the documents are held once and not once for each copy.
    // A document that doesn't exist has all its counts at 0.
    private final boolean[] exists = new boolean[DOCS];
    private final int[] counts = new int[COUNTS];

    private final boolean[] searchableExists = new boolean[DOCS];
    private final int[] searchableCounts = new int[COUNTS];

    private final int[] hitDocs = new int[DOCS];
    private final int[] hitScores = new int[DOCS];
    private int kept = 0;

    public ShardSearch() {
        for (int node = 0; node < NODES; node++) {
            up[node] = true;
            current[node] = true;
        }
    }

    public int put(int doc, int term, int count) {
        if (!isDoc(doc)) {
            return BAD_DOC;
        }
        if (!isTerm(term) || count < 0 || count > GREATEST_COUNT) {
            return BAD_TERM;
        }
        int shard = doc % SHARDS;
        if (!isOpen(shard)) {
            return CLOSED;
        }
        leaveDownCopiesBehind(shard);
        int place = doc * TERMS + term;
        int old = counts[place];
        exists[doc] = true;
        counts[place] = count;
        return old;
    }

    public int delete(int doc) {
        if (!isDoc(doc)) {
            return BAD_DOC;
        }
        int shard = doc % SHARDS;
        if (!isOpen(shard)) {
            return CLOSED;
        }
        if (!exists[doc]) {
            return NO_DOC;
        }
        leaveDownCopiesBehind(shard);
        exists[doc] = false;
        for (int term = 0; term < TERMS; term++) {
            counts[doc * TERMS + term] = 0;
        }
        return 0;
    }

    public int refresh() {
        int refreshed = 0;
        for (int shard = 0; shard < SHARDS; shard++) {
            if (isOpen(shard)) {
                makeSearchable(shard);
                refreshed++;
            }
        }
        return refreshed;
    }

    public int crash(int node) {
        if (!isNode(node)) {
            return BAD_NODE;
        }
        if (!up[node]) {
            return 0;
        }
        up[node] = false;
        return 1;
    }

    public int restart(int node) {
        if (!isNode(node)) {
            return BAD_NODE;
        }
        if (up[node]) {
            return 0;
        }
        up[node] = true;
        bringUpCopiesLevel(node % SHARDS);
        return 1;
    }

    public int search(int terms, int k) {
        kept = 0;
        for (int doc = 0; doc < DOCS; doc++) {
            if (isInPlay(doc)) {
                int found = scoreOf(doc, terms);
                if (found > 0) {
                    insertHit(doc, found);
                }
            }
        }
        // There are never more than 16 hits, so a k above 16 keeps no more than 16 does.
        int most = k < 0 ? 0 : k;
        if (kept > most) {
            kept = most;
        }
        return kept;
    }

    public int hit(int i) {
        return isKept(i) ? hitDocs[i] : NONE;
    }

    public int score(int i) {
        return isKept(i) ? hitScores[i] : 0;
    }

    public int count(int doc, int term) {
        if (!isDoc(doc)) {
            return BAD_DOC;
        }
        if (!isTerm(term)) {
            return BAD_TERM;
        }
        if (!isOpen(doc % SHARDS)) {
            return CLOSED;
        }
        if (!exists[doc]) {
            return NO_DOC;
        }
        return counts[doc * TERMS + term];
    }

    public boolean open(int shard) {
        return shard >= 0 && shard < SHARDS && isOpen(shard);
    }

    public int inPlay() {
        int playing = 0;
        for (int doc = 0; doc < DOCS; doc++) {
            if (isInPlay(doc)) {
                playing++;
            }
        }
        return playing;
    }

    public int weight(int term) {
        return isTerm(term) ? weightOf(term) : BAD_TERM;
    }

    private static boolean isDoc(int doc) {
        return doc >= 0 && doc < DOCS;
    }

    private static boolean isTerm(int term) {
        return term >= 0 && term < TERMS;
    }

    private static boolean isNode(int node) {
        return node >= 0 && node < NODES;
    }

    private boolean isKept(int i) {
        return i >= 0 && i < kept;
    }

    private boolean isOpen(int shard) {
        int other = shard + SHARDS;
        return (up[shard] && current[shard]) || (up[other] && current[other]);
    }

    private boolean isInPlay(int doc) {
        return searchableExists[doc] && isOpen(doc % SHARDS);
    }

    // A change doesn't reach a node that is down, so its copy lacks it from then on.
    private void leaveDownCopiesBehind(int shard) {
        for (int node = shard; node < NODES; node += SHARDS) {
            if (!up[node]) {
                current[node] = false;
            }
        }
    }

    // Either copy may be the one that lags: the node that comes up can also
    // bring the current copy that the other one, already up, has waited for.
    private void bringUpCopiesLevel(int shard) {
        if (!isOpen(shard)) {
            return;
        }
        for (int node = shard; node < NODES; node += SHARDS) {
            if (up[node]) {
                current[node] = true;
            }
        }
    }

    private void makeSearchable(int shard) {
        for (int doc = shard; doc < DOCS; doc += SHARDS) {
            searchableExists[doc] = exists[doc];
            for (int term = 0; term < TERMS; term++) {
                int place = doc * TERMS + term;
                searchableCounts[place] = counts[place];
            }
        }
    }

    private int weightOf(int term) {
        int playing = 0;
        int having = 0;
        for (int doc = 0; doc < DOCS; doc++) {
            if (isInPlay(doc)) {
                playing++;
                if (searchableCounts[doc * TERMS + term] > 0) {
                    having++;
                }
            }
        }
        return having == 0 ? 0 : WEIGHT_UNIT * playing / having;
    }

    private int scoreOf(int doc, int terms) {
        int sum = 0;
        for (int term = 0; term < TERMS; term++) {
            if (((terms >> term) & 1) == 1) {
                sum += searchableCounts[doc * TERMS + term] * weightOf(term);
            }
        }
        return sum;
    }

    // Documents come in rising order, so a later one of equal score stays behind.
    private void insertHit(int doc, int found) {
        int place = kept;
        while (place > 0 && hitScores[place - 1] < found) {
            hitDocs[place] = hitDocs[place - 1];
            hitScores[place] = hitScores[place - 1];
            place--;
        }
        hitDocs[place] = doc;
        hitScores[place] = found;
        kept++;
    }
}
