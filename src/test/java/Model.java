import java.util.ArrayList;
import java.util.List;

/**
 * What the document asks, held otherwise than the class holds it: every copy has its own
 * log of changes, and is current when its log is as long as the shard's.
 */
final class Model {
    private final List<List<int[]>> logs = new ArrayList<>();
    private final boolean[] up = {true, true, true, true, true, true};
    private final int[] changes = new int[3];
    private final int[][] searchable = new int[16][];
    private List<int[]> kept = new ArrayList<>();

    Model() {
        for (int node = 0; node < 6; node++) {
            logs.add(new ArrayList<>());
        }
    }

    int put(int doc, int term, int count) {
        if (doc < 0 || doc > 15) return -1;
        if (term < 0 || term > 5 || count < 0 || count > 9) return -2;
        if (!open(doc % 3)) return -3;
        int[] old = replay(doc);
        change(doc % 3, new int[] {doc, term, count});
        return old == null ? 0 : old[term];
    }

    int delete(int doc) {
        if (doc < 0 || doc > 15) return -1;
        if (!open(doc % 3)) return -3;
        if (replay(doc) == null) return -5;
        change(doc % 3, new int[] {doc});
        return 0;
    }

    int refresh() {
        int refreshed = 0;
        for (int shard = 0; shard < 3; shard++) {
            if (open(shard)) {
                refreshed++;
                for (int doc = shard; doc < 16; doc += 3) searchable[doc] = replay(doc);
            }
        }
        return refreshed;
    }

    int crash(int node) {
        if (node < 0 || node > 5) return -4;
        int was = up[node] ? 1 : 0;
        up[node] = false;
        return was;
    }

    int restart(int node) {
        if (node < 0 || node > 5) return -4;
        int was = up[node] ? 0 : 1;
        up[node] = true;
        int source = source(node % 3);
        for (int copy = node % 3; copy < 6 && source >= 0; copy += 3) {
            if (up[copy]) logs.set(copy, new ArrayList<>(logs.get(source)));
        }
        return was;
    }

    int search(int terms, int k) {
        List<int[]> hits = new ArrayList<>();
        for (int doc = 0; doc < 16; doc++) {
            int sum = 0;
            for (int term = 0; term < 6; term++) {
                if (plays(doc) && (terms >> term & 1) == 1) sum += searchable[doc][term] * weight(term);
            }
            if (sum > 0) hits.add(new int[] {doc, sum});
        }
        hits.sort((a, b) -> a[1] != b[1] ? b[1] - a[1] : a[0] - b[0]);
        int most = Math.max(0, Math.min(16, k));
        kept = hits.subList(0, Math.min(most, hits.size()));
        return kept.size();
    }

    int hit(int i) {
        return i < 0 || i >= kept.size() ? -6 : kept.get(i)[0];
    }

    int score(int i) {
        return i < 0 || i >= kept.size() ? 0 : kept.get(i)[1];
    }

    int count(int doc, int term) {
        if (doc < 0 || doc > 15) return -1;
        if (term < 0 || term > 5) return -2;
        if (!open(doc % 3)) return -3;
        int[] counts = replay(doc);
        return counts == null ? -5 : counts[term];
    }

    boolean open(int shard) {
        return shard >= 0 && shard <= 2 && source(shard) >= 0;
    }

    int inPlay() {
        int playing = 0;
        for (int doc = 0; doc < 16; doc++) playing += plays(doc) ? 1 : 0;
        return playing;
    }

    int weight(int term) {
        if (term < 0 || term > 5) return -2;
        int having = 0;
        for (int doc = 0; doc < 16; doc++) having += plays(doc) && searchable[doc][term] > 0 ? 1 : 0;
        return having == 0 ? 0 : 16 * inPlay() / having;
    }

    private boolean plays(int doc) {
        return open(doc % 3) && searchable[doc] != null;
    }

    /** The node of a current copy that is up, or -1. */
    private int source(int shard) {
        for (int node = shard; node < 6; node += 3) {
            if (up[node] && logs.get(node).size() == changes[shard]) return node;
        }
        return -1;
    }

    private void change(int shard, int[] entry) {
        for (int node = shard; node < 6; node += 3) {
            if (up[node]) logs.get(node).add(entry);
        }
        changes[shard]++;
    }

    /** The document's counts by the log of a current copy that is up; null if it doesn't exist. */
    private int[] replay(int doc) {
        int[] counts = null;
        for (int[] entry : logs.get(source(doc % 3))) {
            if (entry[0] == doc && entry.length == 1) {
                counts = null;
            } else if (entry[0] == doc) {
                if (counts == null) counts = new int[6];
                counts[entry[1]] = entry[2];
            }
        }
        return counts;
    }
}
