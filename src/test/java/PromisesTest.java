/** Each promise of the document by itself: ordinary inputs, the named edges, wrong inputs. */
public final class PromisesTest {
    private static final int LEAST = Integer.MIN_VALUE;
    private static final int GREATEST = Integer.MAX_VALUE;
    private static final Due due = new Due();

    public static void main(String[] args) {
        newObject();
        putAnswersOldCount();
        putRefusals();
        putOverwritesAfterDelete();
        deleteAnswers();
        refreshMakesSearchable();
        refreshSkipsClosedShards();
        crashAnswers();
        restartAnswers();
        restartOfStaleCopy();
        restartLevelsTheOtherCopy();
        copiesWithoutChangeStayCurrent();
        makingADocumentIsAChange();
        deleteIsAChange();
        refusedCallsAreNoChange();
        putOfSameCountIsAChange();
        searchAnswers();
        searchLooksAtSixBits();
        searchLimits();
        searchOrder();
        hitsStayUntilNextSearch();
        hitAndScoreOutside();
        countAnswers();
        countRefusals();
        openAnswers();
        inPlayAnswers();
        weightAnswers();
        closedShardsAreOutOfPlay();
        refusalOrder();
        askingChangesNothing();
        objectsAreApart();
        readmeExample();
        due.end();
    }

    private static void newObject() {
        due.part("1 new object");
        ShardSearch x = new ShardSearch();
        due.is("inPlay()", x.inPlay(), 0);
        due.is("hit(0)", x.hit(0), ShardSearch.NONE);
        due.is("score(0)", x.score(0), 0);
        for (int shard = 0; shard < 3; shard++) {
            due.is("open(" + shard + ")", x.open(shard), true);
        }
        for (int doc = 0; doc < 16; doc++) {
            due.is("count(" + doc + ", 0)", x.count(doc, 0), ShardSearch.NO_DOC);
        }
        for (int term = 0; term < 6; term++) {
            due.is("weight(" + term + ")", x.weight(term), 0);
        }
        due.is("search(63, 16)", x.search(63, 16), 0);
        for (int node = 0; node < 6; node++) {
            due.is("restart(" + node + ")", x.restart(node), 0);
        }
        due.is("refresh()", x.refresh(), 3);
        due.is("inPlay() after refresh", x.inPlay(), 0);
    }

    private static void putAnswersOldCount() {
        due.part("2 put");
        ShardSearch x = new ShardSearch();
        for (int doc = 0; doc < 16; doc++) {
            for (int term = 0; term < 6; term++) {
                String at = doc + ", " + term;
                int count = (doc + term) % 10;
                due.is("first put(" + at + ")", x.put(doc, term, count), 0);
                due.is("second put(" + at + ")", x.put(doc, term, 9 - count), count);
            }
        }
        for (int doc = 0; doc < 16; doc++) {
            for (int term = 0; term < 6; term++) {
                due.is("count(" + doc + ", " + term + ")", x.count(doc, term), 9 - (doc + term) % 10);
            }
        }
        ShardSearch y = new ShardSearch();
        due.is("put(5, 2, 0)", y.put(5, 2, 0), 0);
        due.is("a put of 0 makes it exist", y.count(5, 2), 0);
        due.is("its other counts", y.count(5, 0), 0);
        due.is("its neighbour", y.count(4, 2), ShardSearch.NO_DOC);
        due.is("its shard's next", y.count(8, 2), ShardSearch.NO_DOC);
    }

    private static void putRefusals() {
        due.part("2 put refused");
        ShardSearch x = new ShardSearch();
        int[] badDocs = {-1, 16, -3, LEAST, GREATEST};
        for (int doc : badDocs) {
            due.is("put(" + doc + ", 0, 1)", x.put(doc, 0, 1), ShardSearch.BAD_DOC);
        }
        int[] badTerms = {-1, 6, LEAST, GREATEST};
        for (int term : badTerms) {
            due.is("put(0, " + term + ", 1)", x.put(0, term, 1), ShardSearch.BAD_TERM);
        }
        int[] badCounts = {-1, 10, LEAST, GREATEST};
        for (int count : badCounts) {
            due.is("put(0, 0, " + count + ")", x.put(0, 0, count), ShardSearch.BAD_TERM);
        }
        for (int doc = 0; doc < 16; doc++) {
            due.is("count(" + doc + ", 0)", x.count(doc, 0), ShardSearch.NO_DOC);
        }
        x.put(1, 0, 4);
        x.put(1, 0, 10);
        due.is("count(1, 0) is kept", x.count(1, 0), 4);
        Clusters.close(x, 1);
        due.is("put(1, 0, 5) closed", x.put(1, 0, 5), ShardSearch.CLOSED);
        due.is("put(13, 0, 5) closed", x.put(13, 0, 5), ShardSearch.CLOSED);
        due.is("put(2, 0, 5) in another shard", x.put(2, 0, 5), 0);
        Clusters.reopen(x, 1);
        due.is("count(1, 0) after closed", x.count(1, 0), 4);
        due.is("count(13, 0) after closed", x.count(13, 0), ShardSearch.NO_DOC);
    }

    private static void putOverwritesAfterDelete() {
        due.part("2 put after delete");
        ShardSearch x = new ShardSearch();
        x.put(15, 0, 3);
        x.put(15, 5, 9);
        x.delete(15);
        due.is("put(15, 5, 2)", x.put(15, 5, 2), 0);
        due.is("count(15, 0)", x.count(15, 0), 0);
        due.is("count(15, 5)", x.count(15, 5), 2);
    }

    private static void deleteAnswers() {
        due.part("3 delete");
        ShardSearch x = new ShardSearch();
        int[] badDocs = {-1, 16, LEAST, GREATEST};
        for (int doc : badDocs) {
            due.is("delete(" + doc + ")", x.delete(doc), ShardSearch.BAD_DOC);
        }
        due.is("delete(7) that isn't", x.delete(7), ShardSearch.NO_DOC);
        x.put(7, 1, 1);
        x.put(8, 1, 1);
        x.refresh();
        Clusters.close(x, 1);
        due.is("delete(7) closed", x.delete(7), ShardSearch.CLOSED);
        due.is("delete(4) closed", x.delete(4), ShardSearch.CLOSED);
        Clusters.reopen(x, 1);
        due.is("count(7, 1)", x.count(7, 1), 1);
        due.is("delete(7)", x.delete(7), 0);
        due.is("delete(7) again", x.delete(7), ShardSearch.NO_DOC);
        due.is("count(7, 1) after", x.count(7, 1), ShardSearch.NO_DOC);
        due.is("count(8, 1) after", x.count(8, 1), 1);
        due.is("inPlay() before refresh", x.inPlay(), 2);
        x.refresh();
        due.is("inPlay() after refresh", x.inPlay(), 1);
    }

    private static void refreshMakesSearchable() {
        due.part("4 refresh");
        ShardSearch x = new ShardSearch();
        x.put(0, 0, 2);
        due.is("search before", x.search(1, 16), 0);
        due.is("refresh()", x.refresh(), 3);
        due.is("search after", x.search(1, 16), 1);
        due.is("score(0)", x.score(0), 32);
        x.put(0, 0, 5);
        x.search(1, 16);
        due.is("score(0) of the old count", x.score(0), 32);
        due.is("count(0, 0) is the new one", x.count(0, 0), 5);
        x.refresh();
        x.search(1, 16);
        due.is("score(0) of the new count", x.score(0), 80);
        x.delete(0);
        x.put(0, 1, 1);
        due.is("weight(0) before", x.weight(0), 16);
        due.is("weight(1) before", x.weight(1), 0);
        x.refresh();
        due.is("weight(0) after", x.weight(0), 0);
        due.is("weight(1) after", x.weight(1), 16);
    }

    private static void refreshSkipsClosedShards() {
        due.part("4 refresh with closed shards");
        ShardSearch x = new ShardSearch();
        for (int doc = 0; doc < 3; doc++) {
            x.put(doc, 0, 1);
        }
        x.refresh();
        for (int doc = 0; doc < 3; doc++) {
            x.put(doc, 0, 2);
        }
        Clusters.close(x, 0);
        due.is("refresh() with one closed", x.refresh(), 2);
        Clusters.reopen(x, 0);
        x.search(1, 16);
        due.is("hit(0)", x.hit(0), 1);
        due.is("score(0)", x.score(0), 32);
        due.is("hit(2): the closed one kept its last refresh", x.hit(2), 0);
        due.is("score(2)", x.score(2), 16);
        Clusters.close(x, 0);
        Clusters.close(x, 1);
        due.is("refresh() with two closed", x.refresh(), 1);
        Clusters.close(x, 2);
        due.is("refresh() with all closed", x.refresh(), 0);
        Clusters.reopen(x, 0);
        due.is("refresh() with one open", x.refresh(), 1);
        x.search(1, 16);
        due.is("score(0) of doc 0", x.score(0), 32);
    }

    private static void crashAnswers() {
        due.part("5 crash");
        ShardSearch x = new ShardSearch();
        int[] badNodes = {-1, 6, LEAST, GREATEST};
        for (int node : badNodes) {
            due.is("crash(" + node + ")", x.crash(node), ShardSearch.BAD_NODE);
        }
        for (int node = 0; node < 6; node++) {
            due.is("crash(" + node + ")", x.crash(node), 1);
            due.is("crash(" + node + ") again", x.crash(node), 0);
            for (int shard = 0; shard < 3; shard++) {
                due.is("open(" + shard + ") with 0 to " + node + " down", x.open(shard), node < shard + 3);
            }
        }
    }

    private static void restartAnswers() {
        due.part("6 restart");
        ShardSearch x = new ShardSearch();
        int[] badNodes = {-1, 6, LEAST, GREATEST};
        for (int node : badNodes) {
            due.is("restart(" + node + ")", x.restart(node), ShardSearch.BAD_NODE);
        }
        for (int node = 0; node < 6; node++) {
            due.is("restart(" + node + ") that is up", x.restart(node), 0);
            x.crash(node);
            due.is("restart(" + node + ") that is down", x.restart(node), 1);
            due.is("restart(" + node + ") again", x.restart(node), 0);
            due.is("crash(" + node + ") after", x.crash(node), 1);
            x.restart(node);
        }
    }

    private static void restartOfStaleCopy() {
        due.part("6 restart of a copy that lags");
        for (int shard = 0; shard < 3; shard++) {
            for (int first = shard; first < 6; first += 3) {
                int other = (first + 3) % 6;
                ShardSearch x = new ShardSearch();
                x.put(shard, 0, 1);
                x.refresh();
                x.crash(first);
                x.put(shard, 0, 2);
                x.crash(other);
                x.restart(first);
                due.is("open(" + shard + ") with the lagging copy alone", x.open(shard), false);
                due.is("put there", x.put(shard, 0, 3), ShardSearch.CLOSED);
                due.is("count there", x.count(shard, 0), ShardSearch.CLOSED);
                due.is("inPlay()", x.inPlay(), 0);
                x.restart(other);
                due.is("open(" + shard + ") with both", x.open(shard), true);
                due.is("count with both", x.count(shard, 0), 2);
            }
        }
    }

    private static void restartLevelsTheOtherCopy() {
        due.part("6 restart brings the other copy level");
        for (int shard = 0; shard < 3; shard++) {
            for (int first = shard; first < 6; first += 3) {
                int other = (first + 3) % 6;
                ShardSearch x = new ShardSearch();
                x.crash(first);
                x.put(shard, 0, 2);
                x.crash(other);
                x.restart(first);
                x.restart(other);
                x.crash(other);
                due.is("open(" + shard + ") on the copy brought level", x.open(shard), true);
                due.is("count on it", x.count(shard, 0), 2);

                ShardSearch y = new ShardSearch();
                y.crash(first);
                y.put(shard, 0, 4);
                y.restart(first);
                y.crash(other);
                due.is("open(" + shard + ") after a restart beside a current copy", y.open(shard), true);
                due.is("count after it", y.count(shard, 0), 4);
            }
        }
    }

    private static void copiesWithoutChangeStayCurrent() {
        due.part("terms: a copy that misses no change stays current");
        ShardSearch x = new ShardSearch();
        x.put(0, 0, 1);
        x.crash(0);
        x.put(1, 0, 1);
        x.put(2, 0, 1);
        x.refresh();
        x.crash(3);
        due.is("open(0) with both down", x.open(0), false);
        x.restart(0);
        due.is("open(0): changes of other shards don't count", x.open(0), true);
        due.is("count(0, 0)", x.count(0, 0), 1);
        due.is("put(0, 0, 7)", x.put(0, 0, 7), 1);
        x.crash(0);
        x.restart(3);
        due.is("open(0) on the copy that was down", x.open(0), false);
    }

    private static void makingADocumentIsAChange() {
        due.part("terms: a put of 0 that makes a document is a change");
        ShardSearch x = new ShardSearch();
        x.crash(4);
        x.put(1, 0, 0);
        x.crash(1);
        x.restart(4);
        due.is("open(1)", x.open(1), false);
        x.restart(1);
        due.is("count(1, 0)", x.count(1, 0), 0);
    }

    private static void deleteIsAChange() {
        due.part("terms: delete is a change");
        ShardSearch x = new ShardSearch();
        x.put(9, 0, 1);
        x.crash(3);
        x.delete(9);
        x.crash(0);
        x.restart(3);
        due.is("open(0)", x.open(0), false);
        x.restart(0);
        due.is("count(9, 0)", x.count(9, 0), ShardSearch.NO_DOC);
    }

    private static void refusedCallsAreNoChange() {
        due.part("terms: a refused call is no change");
        ShardSearch x = new ShardSearch();
        x.put(0, 0, 1);
        x.crash(3);
        x.put(0, 0, 10);
        x.put(0, 6, 1);
        x.delete(3);
        x.count(0, 0);
        x.search(63, 16);
        x.refresh();
        x.crash(0);
        x.put(0, 0, 2);
        x.delete(0);
        x.restart(3);
        due.is("open(0)", x.open(0), true);
        due.is("count(0, 0)", x.count(0, 0), 1);
    }

    // The document doesn't say whether a put of the count that is there already
    // is a change; each put that isn't refused is taken as one.
    private static void putOfSameCountIsAChange() {
        due.part("terms: a put of the same count");
        ShardSearch x = new ShardSearch();
        x.put(0, 0, 1);
        x.crash(3);
        x.put(0, 0, 1);
        x.crash(0);
        x.restart(3);
        due.is("open(0)", x.open(0), false);
    }

    private static void searchAnswers() {
        due.part("7 search");
        ShardSearch x = threeDocuments();
        due.is("search(1, 16)", x.search(1, 16), 2);
        due.is("hit(0)", x.hit(0), 1);
        due.is("score(0)", x.score(0), 72);
        due.is("hit(1)", x.hit(1), 0);
        due.is("score(1)", x.score(1), 48);
        due.is("search(3, 16)", x.search(3, 16), 3);
        due.is("hit(0)", x.hit(0), 2);
        due.is("score(0)", x.score(0), 240);
        due.is("hit(1)", x.hit(1), 1);
        due.is("score(1)", x.score(1), 72);
        due.is("hit(2)", x.hit(2), 0);
        due.is("score(2)", x.score(2), 48);
        due.is("search of no term", x.search(0, 16), 0);
        due.is("search of a term that none has", x.search(16, 16), 0);
    }

    private static void searchLooksAtSixBits() {
        due.part("7 search, bits");
        ShardSearch x = threeDocuments();
        due.is("search(64, 16)", x.search(64, 16), 0);
        due.is("search(LEAST, 16)", x.search(LEAST, 16), 0);
        due.is("search(-64, 16)", x.search(-64, 16), 0);
        due.is("search(-63, 16)", x.search(-63, 16), 2);
        due.is("score(0)", x.score(0), 72);
        due.is("search(-1, 16)", x.search(-1, 16), 3);
        due.is("search(GREATEST, 16)", x.search(GREATEST, 16), 3);
        ShardSearch y = new ShardSearch();
        for (int term = 0; term < 6; term++) {
            y.put(term, term, 1);
        }
        y.refresh();
        for (int term = 0; term < 6; term++) {
            due.is("search of term " + term, y.search(1 << term, 16), 1);
            due.is("hit(0)", y.hit(0), term);
            due.is("score(0)", y.score(0), 96);
        }
    }

    private static void searchLimits() {
        due.part("7 search, k");
        ShardSearch x = new ShardSearch();
        for (int doc = 0; doc < 16; doc++) {
            x.put(doc, 0, 1 + doc % 9);
        }
        x.refresh();
        int[] below = {0, -1, LEAST};
        for (int k : below) {
            due.is("search(1, " + k + ")", x.search(1, k), 0);
            due.is("hit(0)", x.hit(0), ShardSearch.NONE);
            due.is("score(0)", x.score(0), 0);
        }
        int[] above = {16, 17, GREATEST};
        for (int k : above) {
            due.is("search(1, " + k + ")", x.search(1, k), 16);
            due.is("hit(15)", x.hit(15), 9);
            due.is("hit(16)", x.hit(16), ShardSearch.NONE);
        }
        for (int k = 1; k < 16; k++) {
            due.is("search(1, " + k + ")", x.search(1, k), k);
            due.is("hit(0)", x.hit(0), 8);
            due.is("score(0)", x.score(0), 144);
            due.is("hit(k - 1) is kept", x.hit(k - 1) >= 0, true);
            due.is("hit(k)", x.hit(k), ShardSearch.NONE);
            due.is("score(k)", x.score(k), 0);
        }
    }

    private static void searchOrder() {
        due.part("7 search, order");
        ShardSearch x = new ShardSearch();
        int[] counts = {2, 5, 2, 9, 5, 0, 9, 1};
        for (int doc = 7; doc >= 0; doc--) {
            x.put(doc, 3, counts[doc]);
        }
        x.refresh();
        due.is("search(8, 16)", x.search(8, 16), 7);
        int[] order = {3, 6, 1, 4, 0, 2, 7};
        for (int i = 0; i < 7; i++) {
            due.is("hit(" + i + ")", x.hit(i), order[i]);
            due.is("score(" + i + ")", x.score(i), 18L * counts[order[i]]);
        }
        due.is("hit(7)", x.hit(7), ShardSearch.NONE);
    }

    private static void hitsStayUntilNextSearch() {
        due.part("8, 9 hits stay");
        ShardSearch x = threeDocuments();
        x.search(3, 2);
        x.put(0, 0, 9);
        x.delete(2);
        x.refresh();
        for (int node = 0; node < 6; node++) {
            x.crash(node);
        }
        due.is("hit(0)", x.hit(0), 2);
        due.is("score(0)", x.score(0), 240);
        due.is("hit(1)", x.hit(1), 1);
        due.is("score(1)", x.score(1), 72);
        due.is("hit(2)", x.hit(2), ShardSearch.NONE);
        due.is("search with all down", x.search(3, 2), 0);
        due.is("hit(0) after it", x.hit(0), ShardSearch.NONE);
        due.is("score(0) after it", x.score(0), 0);
    }

    private static void hitAndScoreOutside() {
        due.part("8, 9 outside");
        ShardSearch x = threeDocuments();
        x.search(1, 16);
        int[] outside = {-1, 2, 15, 16, LEAST, GREATEST};
        for (int i : outside) {
            due.is("hit(" + i + ")", x.hit(i), ShardSearch.NONE);
            due.is("score(" + i + ")", x.score(i), 0);
        }
    }

    private static void countAnswers() {
        due.part("10 count");
        ShardSearch x = new ShardSearch();
        x.put(10, 2, 9);
        due.is("count(10, 2) before a refresh", x.count(10, 2), 9);
        due.is("count(10, 3)", x.count(10, 3), 0);
        x.refresh();
        x.put(10, 2, 1);
        due.is("count(10, 2) after a refresh", x.count(10, 2), 1);
        x.delete(10);
        due.is("count(10, 2) after delete", x.count(10, 2), ShardSearch.NO_DOC);
    }

    private static void countRefusals() {
        due.part("10 count refused");
        ShardSearch x = new ShardSearch();
        int[] badDocs = {-1, 16, LEAST, GREATEST};
        for (int doc : badDocs) {
            due.is("count(" + doc + ", 0)", x.count(doc, 0), ShardSearch.BAD_DOC);
        }
        x.put(0, 0, 1);
        int[] badTerms = {-1, 6, LEAST, GREATEST};
        for (int term : badTerms) {
            due.is("count(0, " + term + ")", x.count(0, term), ShardSearch.BAD_TERM);
        }
        Clusters.close(x, 0);
        due.is("count(0, 0)", x.count(0, 0), ShardSearch.CLOSED);
    }

    private static void openAnswers() {
        due.part("11 open");
        ShardSearch x = new ShardSearch();
        int[] badShards = {-1, 3, 5, LEAST, GREATEST};
        for (int shard : badShards) {
            due.is("open(" + shard + ")", x.open(shard), false);
        }
        for (int shard = 0; shard < 3; shard++) {
            due.is("open with both up", x.open(shard), true);
            x.crash(shard);
            due.is("open with the second up", x.open(shard), true);
            x.restart(shard);
            x.crash(shard + 3);
            due.is("open with the first up", x.open(shard), true);
            x.crash(shard);
            due.is("open with none up", x.open(shard), false);
        }
    }

    private static void inPlayAnswers() {
        due.part("12 inPlay");
        ShardSearch x = new ShardSearch();
        for (int doc = 0; doc < 16; doc++) {
            x.put(doc, 0, 0);
            due.is("inPlay() before refresh", x.inPlay(), doc);
            x.refresh();
            due.is("inPlay() after refresh", x.inPlay(), doc + 1);
        }
        Clusters.close(x, 0);
        due.is("inPlay() without shard 0", x.inPlay(), 10);
        Clusters.close(x, 1);
        due.is("inPlay() without shards 0, 1", x.inPlay(), 5);
        Clusters.close(x, 2);
        due.is("inPlay() without any", x.inPlay(), 0);
        Clusters.reopen(x, 0);
        due.is("inPlay() with shard 0", x.inPlay(), 6);
    }

    private static void weightAnswers() {
        due.part("13 weight");
        ShardSearch x = new ShardSearch();
        int[] badTerms = {-1, 6, LEAST, GREATEST};
        for (int term : badTerms) {
            due.is("weight(" + term + ")", x.weight(term), ShardSearch.BAD_TERM);
        }
        for (int doc = 0; doc < 16; doc++) {
            x.put(doc, 1, 0);
        }
        x.refresh();
        due.is("weight(1) that none has", x.weight(1), 0);
        for (int doc = 0; doc < 16; doc++) {
            x.put(doc, 1, 1 + doc % 9);
            x.refresh();
            due.is("weight(1) of " + (doc + 1), x.weight(1), 256 / (doc + 1));
            due.is("weight(0)", x.weight(0), 0);
        }
        ShardSearch y = threeDocuments();
        y.put(5, 2, 1);
        y.put(6, 2, 1);
        y.refresh();
        y.put(7, 2, 1);
        due.is("weight(2), rounded down once", y.weight(2), 40);
        due.is("weight(5)", y.weight(5), 0);
        y.refresh();
        due.is("weight(2) after refresh", y.weight(2), 32);
    }

    private static void closedShardsAreOutOfPlay() {
        due.part("terms: closed shards");
        ShardSearch x = threeDocuments();
        Clusters.close(x, 1);
        due.is("inPlay()", x.inPlay(), 2);
        due.is("weight(0)", x.weight(0), 32);
        due.is("weight(1)", x.weight(1), 32);
        due.is("search(3, 16)", x.search(3, 16), 2);
        due.is("hit(0)", x.hit(0), 2);
        due.is("score(0)", x.score(0), 160);
        due.is("hit(1)", x.hit(1), 0);
        due.is("score(1)", x.score(1), 64);
        Clusters.reopen(x, 1);
        due.is("search(3, 16) open again", x.search(3, 16), 3);
        due.is("score(0)", x.score(0), 240);
    }

    private static void refusalOrder() {
        due.part("14 order");
        ShardSearch x = new ShardSearch();
        for (int shard = 0; shard < 3; shard++) {
            Clusters.close(x, shard);
        }
        due.is("put: doc before term", x.put(16, 6, 1), ShardSearch.BAD_DOC);
        due.is("put: doc before count", x.put(-1, 0, 10), ShardSearch.BAD_DOC);
        due.is("put: term before closed", x.put(0, 6, 1), ShardSearch.BAD_TERM);
        due.is("put: count before closed", x.put(0, 0, -1), ShardSearch.BAD_TERM);
        due.is("put: closed", x.put(0, 0, 1), ShardSearch.CLOSED);
        due.is("delete: doc before closed", x.delete(16), ShardSearch.BAD_DOC);
        due.is("delete: closed before no doc", x.delete(0), ShardSearch.CLOSED);
        due.is("count: doc before term", x.count(-1, -1), ShardSearch.BAD_DOC);
        due.is("count: doc before closed", x.count(16, 0), ShardSearch.BAD_DOC);
        due.is("count: term before closed", x.count(0, 6), ShardSearch.BAD_TERM);
        due.is("count: closed before no doc", x.count(0, 0), ShardSearch.CLOSED);
        ShardSearch y = new ShardSearch();
        due.is("count: term before no doc", y.count(0, -1), ShardSearch.BAD_TERM);
        due.is("count: no doc", y.count(0, 0), ShardSearch.NO_DOC);
    }

    private static void askingChangesNothing() {
        due.part("asking changes nothing");
        ShardSearch x = threeDocuments();
        x.search(3, 2);
        for (int round = 0; round < 2; round++) {
            due.is("hit(0)", x.hit(0), 2);
            due.is("score(1)", x.score(1), 72);
            due.is("hit(2)", x.hit(2), ShardSearch.NONE);
            due.is("count(0, 0)", x.count(0, 0), 2);
            due.is("open(0)", x.open(0), true);
            due.is("inPlay()", x.inPlay(), 3);
            due.is("weight(0)", x.weight(0), 24);
            due.is("weight(1)", x.weight(1), 48);
        }
    }

    private static void objectsAreApart() {
        due.part("objects are apart");
        ShardSearch x = threeDocuments();
        x.search(1, 16);
        x.crash(0);
        ShardSearch y = new ShardSearch();
        due.is("inPlay()", y.inPlay(), 0);
        due.is("hit(0)", y.hit(0), ShardSearch.NONE);
        due.is("crash(0)", y.crash(0), 1);
    }

    /** The calls of README.md's example, with the answers that it tells. */
    private static void readmeExample() {
        due.part("README.md");
        ShardSearch cluster = new ShardSearch();
        due.is("put(4, 0, 2)", cluster.put(4, 0, 2), 0);
        due.is("put(5, 1, 1)", cluster.put(5, 1, 1), 0);
        due.is("search(1 << 0, 10) before", cluster.search(1 << 0, 10), 0);
        due.is("refresh()", cluster.refresh(), 3);
        due.is("inPlay()", cluster.inPlay(), 2);
        due.is("weight(0)", cluster.weight(0), 32);
        due.is("search(1 << 0 | 1 << 1, 10)", cluster.search(1 << 0 | 1 << 1, 10), 2);
        due.is("hit(0)", cluster.hit(0), 4);
        due.is("score(0)", cluster.score(0), 64);
        due.is("hit(2)", cluster.hit(2), ShardSearch.NONE);
        due.is("crash(1)", cluster.crash(1), 1);
        due.is("put(4, 0, 3)", cluster.put(4, 0, 3), 2);
        due.is("crash(4)", cluster.crash(4), 1);
        due.is("count(4, 0)", cluster.count(4, 0), ShardSearch.CLOSED);
        due.is("restart(1)", cluster.restart(1), 1);
        due.is("open(1) without the put", cluster.open(1), false);
        due.is("restart(4)", cluster.restart(4), 1);
        due.is("open(1)", cluster.open(1), true);
        due.is("count(4, 0) again", cluster.count(4, 0), 3);
        due.is("delete(4)", cluster.delete(4), 0);
        due.is("hit(0) still", cluster.hit(0), 4);
    }

    /** Searchable: 0 has term 0 twice, 1 has it three times, 2 has term 1 five times. */
    private static ShardSearch threeDocuments() {
        ShardSearch x = new ShardSearch();
        x.put(0, 0, 2);
        x.put(1, 0, 3);
        x.put(2, 1, 5);
        x.refresh();
        return x;
    }
}
