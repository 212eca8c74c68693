/** The sentences of the promises 1 to 14: one test each, on both sides of each boundary and far beyond. */
public final class PromisesBoundaryTest {
    private static final int LEAST = Integer.MIN_VALUE;
    private static final int GREATEST = Integer.MAX_VALUE;
    private static final Due due = new Due();

    public static void main(String[] args) {
        newObjectHasNoDocuments();
        newObjectHasNothingSearchable();
        newObjectHasNoHits();
        putSetsHowOften();
        putMakesTheDocumentExist();
        putLeavesOtherCountsAt0IfItDidNotExist();
        putOfBadDoc();
        putOfBadTerm();
        putOfBadCount();
        putIntoAClosedShard();
        putAnswersTheOldCount();
        deleteEndsTheDocument();
        deleteOfBadDoc();
        deleteInAClosedShard();
        deleteOfNoDoc();
        deleteAnswers0();
        refreshOfOpenShardsOnly();
        refreshAnswersHowManyShards();
        crashTakesTheNodeDown();
        crashOfBadNode();
        crashAnswers1Or0();
        restartBringsTheNodeUp();
        restartOfBadNode();
        restartAnswers1Or0();
        searchForASetOfTerms();
        searchDoesNotLookAtOtherBits();
        searchKeepsTheFirstK();
        searchWithKBelow0();
        searchWithKAbove16();
        searchKeepsUntilTheNextSearch();
        searchAnswersHowManyAreKept();
        hitFrom0();
        hitIsNoneIfThereIsNone();
        scoreIsAsItWasInThatSearch();
        scoreIs0IfThereIsNone();
        countIsAsItIs();
        countOfBadDoc();
        countOfBadTerm();
        countInAClosedShard();
        countOfNoDoc();
        openAnswersForShards0To2();
        openIsFalseOutside0To2();
        inPlayIsNow();
        weightIsNow();
        weightOfBadTerm();
        putRefusesInOrder();
        deleteRefusesInOrder();
        countRefusesInOrder();
        due.end();
    }

    private static void newObjectHasNoDocuments() {
        due.part("Promise 1: \"No documents\"");
        ShardSearch x = new ShardSearch();
        for (int doc = 0; doc <= 15; doc++) {
            for (int term = 0; term <= 5; term++) {
                due.is("count(" + doc + ", " + term + ")", x.count(doc, term), ShardSearch.NO_DOC);
            }
            due.is("delete(" + doc + ")", x.delete(doc), ShardSearch.NO_DOC);
        }
        x.put(15, 0, 0);
        due.is("count(15, 0) after a put", x.count(15, 0), 0);
        due.is("count(14, 0) after it", x.count(14, 0), ShardSearch.NO_DOC);
    }

    private static void newObjectHasNothingSearchable() {
        due.part("Promise 1: \"nothing searchable\"");
        ShardSearch x = new ShardSearch();
        due.is("inPlay()", x.inPlay(), 0);
        for (int term = 0; term <= 5; term++) {
            due.is("weight(" + term + ")", x.weight(term), 0);
        }
        due.is("search(63, 16)", x.search(63, 16), 0);
        due.is("search(-1, GREATEST)", x.search(-1, GREATEST), 0);
        due.is("refresh() of empty shards", x.refresh(), 3);
        due.is("inPlay() after a refresh of nothing", x.inPlay(), 0);
        due.is("search(63, 16) after it", x.search(63, 16), 0);
    }

    private static void newObjectHasNoHits() {
        due.part("Promise 1: \"no hits\"");
        ShardSearch x = new ShardSearch();
        for (int i = -1; i <= 16; i++) {
            due.is("hit(" + i + ")", x.hit(i), ShardSearch.NONE);
            due.is("score(" + i + ")", x.score(i), 0);
        }
        for (int i : Edges.outside(0, 15)) {
            due.is("hit(" + i + ")", x.hit(i), ShardSearch.NONE);
            due.is("score(" + i + ")", x.score(i), 0);
        }
    }

    private static void putSetsHowOften() {
        due.part("Promise 2: \"Sets how often a document has a term\"");
        for (int doc = 0; doc <= 15; doc++) {
            for (int term = 0; term <= 5; term++) {
                for (int count = 0; count <= 9; count++) {
                    ShardSearch x = full();
                    String call = "put(" + doc + ", " + term + ", " + count + ")";
                    due.is(call, x.put(doc, term, count), 9);
                    for (int each = 0; each <= 15; each++) {
                        due.is("count(" + each + ", " + term + ") after " + call, x.count(each, term), each == doc ? count : 9);
                    }
                    for (int each = 0; each <= 5; each++) {
                        due.is("count(" + doc + ", " + each + ") after " + call, x.count(doc, each), each == term ? count : 9);
                    }
                }
            }
        }
    }

    private static void putMakesTheDocumentExist() {
        due.part("Promise 2: \"the document exists from then on\"");
        for (int doc = 0; doc <= 15; doc++) {
            ShardSearch x = new ShardSearch();
            x.put(doc, 5, 0);
            for (int each = 0; each <= 15; each++) {
                due.is("count(" + each + ", 5) after put(" + doc + ", 5, 0)", x.count(each, 5), each == doc ? 0 : ShardSearch.NO_DOC);
            }
            x.refresh();
            due.is("inPlay() after put(" + doc + ", 5, 0)", x.inPlay(), 1);
        }
    }

    private static void putLeavesOtherCountsAt0IfItDidNotExist() {
        due.part("Promise 2: \"with all other counts 0 if it didn't\"");
        for (int put = 0; put <= 5; put++) {
            ShardSearch x = new ShardSearch();
            for (int term = 0; term <= 5; term++) {
                x.put(9, term, 9);
            }
            x.refresh();
            x.put(9, put, 4);
            for (int term = 0; term <= 5; term++) {
                due.is("count(9, " + term + "), it did exist", x.count(9, term), term == put ? 4 : 9);
            }
            x.delete(9);
            x.put(9, put, 4);
            for (int term = 0; term <= 5; term++) {
                due.is("count(9, " + term + "), it was deleted", x.count(9, term), term == put ? 4 : 0);
            }
            x.refresh();
            for (int term = 0; term <= 5; term++) {
                due.is("weight(" + term + "), it was deleted", x.weight(term), term == put ? 16 : 0);
            }
            ShardSearch y = new ShardSearch();
            y.put(9, put, 4);
            for (int term = 0; term <= 5; term++) {
                due.is("count(9, " + term + "), it never was", y.count(9, term), term == put ? 4 : 0);
            }
        }
    }

    private static void putOfBadDoc() {
        due.part("Promise 2: \"doc not in 0 to 15: BAD_DOC\"");
        ShardSearch x = new ShardSearch();
        for (int doc : Edges.outside(0, 15)) {
            due.is("put(" + doc + ", 0, 1)", x.put(doc, 0, 1), ShardSearch.BAD_DOC);
            due.is("put(" + doc + ", 5, 9)", x.put(doc, 5, 9), ShardSearch.BAD_DOC);
        }
        due.is("put(0, 0, 1)", x.put(0, 0, 1), 0);
        due.is("put(15, 5, 9)", x.put(15, 5, 9), 0);
        x.refresh();
        due.is("inPlay()", x.inPlay(), 2);
    }

    private static void putOfBadTerm() {
        due.part("Promise 2: \"term not in 0 to 5 ...: BAD_TERM\"");
        ShardSearch x = new ShardSearch();
        for (int term : Edges.outside(0, 5)) {
            due.is("put(0, " + term + ", 0)", x.put(0, term, 0), ShardSearch.BAD_TERM);
            due.is("put(15, " + term + ", 9)", x.put(15, term, 9), ShardSearch.BAD_TERM);
        }
        due.is("count(0, 0)", x.count(0, 0), ShardSearch.NO_DOC);
        due.is("count(15, 0)", x.count(15, 0), ShardSearch.NO_DOC);
        due.is("put(0, 0, 0)", x.put(0, 0, 0), 0);
        due.is("put(15, 5, 9)", x.put(15, 5, 9), 0);
    }

    private static void putOfBadCount() {
        due.part("Promise 2: \"or count not in 0 to 9: BAD_TERM\"");
        ShardSearch x = new ShardSearch();
        for (int count : Edges.outside(0, 9)) {
            due.is("put(0, 0, " + count + ")", x.put(0, 0, count), ShardSearch.BAD_TERM);
            due.is("put(15, 5, " + count + ")", x.put(15, 5, count), ShardSearch.BAD_TERM);
        }
        due.is("count(0, 0)", x.count(0, 0), ShardSearch.NO_DOC);
        due.is("count(15, 5)", x.count(15, 5), ShardSearch.NO_DOC);
        due.is("put(0, 0, 0)", x.put(0, 0, 0), 0);
        due.is("put(15, 5, 9)", x.put(15, 5, 9), 0);
        due.is("count(0, 0) put", x.count(0, 0), 0);
        due.is("count(15, 5) put", x.count(15, 5), 9);
    }

    private static void putIntoAClosedShard() {
        due.part("Promise 2: \"its shard is not open: CLOSED\"");
        for (int doc = 0; doc <= 15; doc++) {
            int shard = doc % 3;
            ShardSearch x = new ShardSearch();
            x.put(doc, 0, 3);
            x.crash(shard);
            due.is("put(" + doc + ", 0, 4) with one copy up", x.put(doc, 0, 4), 3);
            x.crash(shard + 3);
            due.is("put(" + doc + ", 0, 5) with no copy up", x.put(doc, 0, 5), ShardSearch.CLOSED);
            x.restart(shard);
            due.is("put(" + doc + ", 0, 6) with a copy up that isn't current", x.put(doc, 0, 6), ShardSearch.CLOSED);
            x.restart(shard + 3);
            due.is("put(" + doc + ", 0, 7) with all up", x.put(doc, 0, 7), 4);
        }
    }

    private static void putAnswersTheOldCount() {
        due.part("Promise 2: \"Else answers the old count (0 if it didn't exist).\"");
        ShardSearch x = new ShardSearch();
        due.is("put(15, 5, 9), it never was", x.put(15, 5, 9), 0);
        due.is("put(15, 5, 9) again", x.put(15, 5, 9), 9);
        due.is("put(15, 5, 0)", x.put(15, 5, 0), 9);
        due.is("put(15, 5, 0) again", x.put(15, 5, 0), 0);
        due.is("put(15, 5, 1)", x.put(15, 5, 1), 0);
        x.refresh();
        due.is("put(15, 5, 2) after a refresh", x.put(15, 5, 2), 1);
        due.is("put(15, 5, 3), the old count not refreshed", x.put(15, 5, 3), 2);
        due.is("put(15, 0, 7), its other term", x.put(15, 0, 7), 0);
        x.delete(15);
        due.is("put(15, 5, 4), it was deleted", x.put(15, 5, 4), 0);
        due.is("put(15, 0, 8), its other term then", x.put(15, 0, 8), 0);
    }

    private static void deleteEndsTheDocument() {
        due.part("Promise 3: \"The document exists no more.\"");
        for (int doc = 0; doc <= 15; doc++) {
            ShardSearch x = full();
            due.is("delete(" + doc + ")", x.delete(doc), 0);
            for (int each = 0; each <= 15; each++) {
                due.is("count(" + each + ", 5) after delete(" + doc + ")", x.count(each, 5), each == doc ? ShardSearch.NO_DOC : 9);
            }
            due.is("inPlay() before a refresh", x.inPlay(), 16);
            x.refresh();
            due.is("inPlay() after it", x.inPlay(), 15);
        }
    }

    private static void deleteOfBadDoc() {
        due.part("Promise 3: \"BAD_DOC\"");
        ShardSearch x = full();
        for (int doc : Edges.outside(0, 15)) {
            due.is("delete(" + doc + ")", x.delete(doc), ShardSearch.BAD_DOC);
        }
        x.refresh();
        due.is("inPlay()", x.inPlay(), 16);
        due.is("delete(0)", x.delete(0), 0);
        due.is("delete(15)", x.delete(15), 0);
        x.refresh();
        due.is("inPlay() after these", x.inPlay(), 14);
    }

    private static void deleteInAClosedShard() {
        due.part("Promise 3: \"CLOSED\"");
        for (int doc = 0; doc <= 15; doc++) {
            int shard = doc % 3;
            ShardSearch x = new ShardSearch();
            x.put(doc, 0, 3);
            x.crash(shard);
            due.is("delete(" + doc + ") with one copy up", x.delete(doc), 0);
            x.put(doc, 0, 4);
            x.crash(shard + 3);
            due.is("delete(" + doc + ") with no copy up", x.delete(doc), ShardSearch.CLOSED);
            x.restart(shard);
            due.is("delete(" + doc + ") with a copy up that isn't current", x.delete(doc), ShardSearch.CLOSED);
            x.restart(shard + 3);
            due.is("count(" + doc + ", 0) with all up", x.count(doc, 0), 4);
            due.is("delete(" + doc + ") with all up", x.delete(doc), 0);
        }
    }

    private static void deleteOfNoDoc() {
        due.part("Promise 3: \"it doesn't exist: NO_DOC\"");
        for (int doc = 0; doc <= 15; doc++) {
            ShardSearch x = new ShardSearch();
            due.is("delete(" + doc + "), it never was", x.delete(doc), ShardSearch.NO_DOC);
            x.put(doc, 5, 0);
            due.is("delete(" + doc + "), it has all counts 0", x.delete(doc), 0);
            due.is("delete(" + doc + "), it was deleted", x.delete(doc), ShardSearch.NO_DOC);
            x.put(doc, 5, 9);
            x.refresh();
            due.is("delete(" + doc + "), it is searchable", x.delete(doc), 0);
            due.is("delete(" + doc + "), it is searchable only", x.delete(doc), ShardSearch.NO_DOC);
        }
    }

    private static void deleteAnswers0() {
        due.part("Promise 3: \"Else answers 0.\"");
        for (int count = 0; count <= 9; count++) {
            ShardSearch x = new ShardSearch();
            x.put(15, 0, count);
            x.put(15, 5, 9);
            due.is("delete(15) with counts " + count + " and 9", x.delete(15), 0);
        }
    }

    private static void refreshOfOpenShardsOnly() {
        due.part("Promise 4: \"For every open shard, its documents as they are become searchable.\"");
        for (int closed = 0; closed < 8; closed++) {
            ShardSearch x = new ShardSearch();
            for (int doc = 0; doc <= 15; doc++) {
                x.put(doc, 0, 1);
            }
            int playing = 0;
            for (int shard = 0; shard <= 2; shard++) {
                if ((closed >> shard & 1) == 1) {
                    Clusters.close(x, shard);
                } else {
                    playing += shard == 0 ? 6 : 5;
                }
            }
            x.refresh();
            for (int shard = 0; shard <= 2; shard++) {
                Clusters.reopen(x, shard);
            }
            due.is("inPlay() after a refresh with shards " + Integer.toBinaryString(closed) + " closed", x.inPlay(), playing);
        }
        // Deleted and emptied documents become searchable as such too.
        ShardSearch y = full();
        y.delete(15);
        y.put(0, 5, 0);
        y.refresh();
        due.is("inPlay() with one deleted", y.inPlay(), 15);
        due.is("search(32, 16) with one deleted and one without the term", y.search(32, 16), 14);
    }

    private static void refreshAnswersHowManyShards() {
        due.part("Promise 4: \"Answers how many shards that were.\"");
        for (int down = 0; down < 64; down++) {
            ShardSearch x = new ShardSearch();
            for (int node = 0; node <= 5; node++) {
                if ((down >> node & 1) == 1) {
                    x.crash(node);
                }
            }
            int open = 0;
            for (int shard = 0; shard <= 2; shard++) {
                open += (down >> shard & 9) == 9 ? 0 : 1;
            }
            due.is("refresh() with nodes " + Integer.toBinaryString(down) + " down", x.refresh(), open);
            due.is("refresh() again", x.refresh(), open);
        }
        ShardSearch y = new ShardSearch();
        y.crash(0);
        y.put(0, 0, 1);
        y.crash(3);
        y.restart(0);
        due.is("refresh() with a copy of shard 0 up that isn't current", y.refresh(), 2);
        y.restart(3);
        due.is("refresh() with a current one up too", y.refresh(), 3);
    }

    private static void crashTakesTheNodeDown() {
        due.part("Promise 5: \"The node goes down.\"");
        for (int node = 0; node <= 5; node++) {
            ShardSearch x = new ShardSearch();
            x.crash((node + 3) % 6);
            due.is("open before crash(" + node + ")", x.open(node % 3), true);
            x.crash(node);
            for (int shard = 0; shard <= 2; shard++) {
                due.is("open(" + shard + ") after crash(" + node + ")", x.open(shard), shard != node % 3);
            }
            for (int each = 0; each <= 5; each++) {
                due.is("restart(" + each + ") after it", x.restart(each), each % 3 == node % 3 ? 1 : 0);
            }
        }
    }

    private static void crashOfBadNode() {
        due.part("Promise 5: \"BAD_NODE\"");
        ShardSearch x = new ShardSearch();
        for (int node : Edges.outside(0, 5)) {
            due.is("crash(" + node + ")", x.crash(node), ShardSearch.BAD_NODE);
        }
        for (int node = 0; node <= 5; node++) {
            due.is("restart(" + node + ") after these", x.restart(node), 0);
        }
        due.is("crash(0)", x.crash(0), 1);
        due.is("crash(5)", x.crash(5), 1);
    }

    private static void crashAnswers1Or0() {
        due.part("Promise 5: \"Else answers 1 if it was up, 0 if not.\"");
        for (int node = 0; node <= 5; node++) {
            ShardSearch x = new ShardSearch();
            due.is("crash(" + node + ") at the start", x.crash(node), 1);
            due.is("crash(" + node + ") again", x.crash(node), 0);
            due.is("crash(" + node + ") a third time", x.crash(node), 0);
            x.restart(node);
            due.is("crash(" + node + ") after a restart", x.crash(node), 1);
        }
    }

    private static void restartBringsTheNodeUp() {
        due.part("Promise 6: \"The node comes up.\"");
        for (int node = 0; node <= 5; node++) {
            ShardSearch x = new ShardSearch();
            for (int each = 0; each <= 5; each++) {
                x.crash(each);
            }
            x.restart(node);
            for (int shard = 0; shard <= 2; shard++) {
                due.is("open(" + shard + ") after restart(" + node + ")", x.open(shard), shard == node % 3);
            }
            for (int each = 0; each <= 5; each++) {
                due.is("crash(" + each + ") after it", x.crash(each), each == node ? 1 : 0);
            }
        }
    }

    private static void restartOfBadNode() {
        due.part("Promise 6: \"BAD_NODE\"");
        ShardSearch x = new ShardSearch();
        for (int node = 0; node <= 5; node++) {
            x.crash(node);
        }
        for (int node : Edges.outside(0, 5)) {
            due.is("restart(" + node + ")", x.restart(node), ShardSearch.BAD_NODE);
        }
        for (int node = 0; node <= 5; node++) {
            due.is("crash(" + node + ") after these", x.crash(node), 0);
        }
        due.is("restart(0)", x.restart(0), 1);
        due.is("restart(5)", x.restart(5), 1);
    }

    private static void restartAnswers1Or0() {
        due.part("Promise 6: \"Else answers 1 if it was down, 0 if not.\"");
        for (int node = 0; node <= 5; node++) {
            ShardSearch x = new ShardSearch();
            due.is("restart(" + node + ") at the start", x.restart(node), 0);
            x.crash(node);
            due.is("restart(" + node + ") after a crash", x.restart(node), 1);
            due.is("restart(" + node + ") again", x.restart(node), 0);
            x.crash((node + 3) % 6);
            due.is("restart(" + node + ") after the other copy's crash", x.restart(node), 0);
            x.crash(node);
            due.is("restart(" + node + ") with both down", x.restart(node), 1);
        }
        ShardSearch stale = new ShardSearch();
        stale.crash(0);
        stale.put(0, 0, 1);
        stale.crash(3);
        due.is("restart(0) with a copy that stays not current", stale.restart(0), 1);
        due.is("restart(0) again", stale.restart(0), 0);
    }

    private static void searchForASetOfTerms() {
        due.part("Promise 7: \"term t if (terms >> t) & 1 is 1, t 0 to 5\"");
        for (int terms = 0; terms < 64; terms++) {
            ShardSearch x = oneDocumentForEachTerm();
            due.is("search(" + terms + ", 16)", x.search(terms, 16), Integer.bitCount(terms));
            int i = 0;
            for (int term = 0; term <= 5; term++) {
                if ((terms >> term & 1) == 1) {
                    due.is("hit(" + i + ") of search(" + terms + ", 16)", x.hit(i), term);
                    due.is("score(" + i + ") of search(" + terms + ", 16)", x.score(i), 96);
                    i++;
                }
            }
        }
    }

    private static void searchDoesNotLookAtOtherBits() {
        due.part("Promise 7: \"other bits are not looked at\"");
        for (int bit = 6; bit <= 31; bit++) {
            ShardSearch x = oneDocumentForEachTerm();
            due.is("search(1 << " + bit + ", 16)", x.search(1 << bit, 16), 0);
            due.is("search(1 << " + bit + " | 32, 16)", x.search(1 << bit | 32, 16), 1);
            due.is("hit(0)", x.hit(0), 5);
            due.is("score(0)", x.score(0), 96);
        }
        ShardSearch x = oneDocumentForEachTerm();
        due.is("search(-1, 16)", x.search(-1, 16), 6);
        due.is("search(~63, 16)", x.search(~63, 16), 0);
        due.is("search(64, 16)", x.search(64, 16), 0);
        due.is("search(63, 16)", x.search(63, 16), 6);
        due.is("search(LEAST, 16)", x.search(LEAST, 16), 0);
        due.is("search(LEAST + 1, 16)", x.search(LEAST + 1, 16), 1);
        due.is("hit(0)", x.hit(0), 0);
        due.is("search(GREATEST, 16)", x.search(GREATEST, 16), 6);
        due.is("search(GREATEST - 63, 16)", x.search(GREATEST - 63, 16), 0);
    }

    private static void searchKeepsTheFirstK() {
        due.part("Promise 7: \"keeps the first k hits\"");
        int[] order = {8, 7, 6, 5, 4, 3, 2, 1, 0};
        ShardSearch x = new ShardSearch();
        for (int doc = 0; doc <= 8; doc++) {
            x.put(doc, 0, doc + 1);
        }
        x.refresh();
        for (int k = 0; k <= 16; k++) {
            int kept = k < 9 ? k : 9;
            due.is("search(1, " + k + ") of 9 hits", x.search(1, k), kept);
            for (int i = 0; i <= 9; i++) {
                due.is("hit(" + i + ") of " + k, x.hit(i), i < kept ? order[i] : ShardSearch.NONE);
                due.is("score(" + i + ") of " + k, x.score(i), i < kept ? 16 * (9 - i) : 0);
            }
        }
    }

    private static void searchWithKBelow0() {
        due.part("Promise 7: \"k below 0 counts as 0\"");
        int[] ks = {-1, -2, -16, -17, -256, -65536, LEAST, LEAST + 1, LEAST + 16};
        for (int k : ks) {
            ShardSearch x = full();
            due.is("search(63, 1)", x.search(63, 1), 1);
            due.is("search(63, " + k + ")", x.search(63, k), 0);
            due.is("hit(0) after it", x.hit(0), ShardSearch.NONE);
            due.is("score(0) after it", x.score(0), 0);
            due.is("search(63, 0)", x.search(63, 0), 0);
            due.is("hit(0) after that", x.hit(0), ShardSearch.NONE);
        }
    }

    private static void searchWithKAbove16() {
        due.part("Promise 7: \"above 16 as 16\"");
        int[] ks = {16, 17, 18, 32, 256, 257, 65536, 65537, GREATEST - 1, GREATEST};
        for (int k : ks) {
            ShardSearch x = full();
            due.is("search(63, 15)", x.search(63, 15), 15);
            due.is("hit(15) after it", x.hit(15), ShardSearch.NONE);
            due.is("search(63, " + k + ")", x.search(63, k), 16);
            due.is("hit(15) after that", x.hit(15), 15);
            due.is("score(15) after that", x.score(15), 6 * 9 * 16);
            due.is("hit(16) after that", x.hit(16), ShardSearch.NONE);
            due.is("score(16) after that", x.score(16), 0);
            due.is("search(0, " + k + ") without terms", x.search(0, k), 0);
        }
    }

    private static void searchKeepsUntilTheNextSearch() {
        due.part("Promise 7: \"until the next search\"");
        ShardSearch x = full();
        x.search(63, 16);
        x.delete(0);
        x.put(1, 0, 0);
        x.refresh();
        for (int node = 0; node <= 5; node++) {
            x.crash(node);
        }
        x.refresh();
        for (int node = 0; node <= 5; node++) {
            x.restart(node);
        }
        for (int i = 0; i <= 15; i++) {
            due.is("hit(" + i + ") after other calls", x.hit(i), i);
            due.is("score(" + i + ") after other calls", x.score(i), 864);
        }
        due.is("search(63, 2)", x.search(63, 2), 2);
        due.is("hit(1) of the next search", x.hit(1), 3);
        for (int i = 2; i <= 15; i++) {
            due.is("hit(" + i + ") of the next search", x.hit(i), ShardSearch.NONE);
            due.is("score(" + i + ") of the next search", x.score(i), 0);
        }
        due.is("search(0, 16), without a hit", x.search(0, 16), 0);
        due.is("hit(0) after it", x.hit(0), ShardSearch.NONE);
        due.is("score(0) after it", x.score(0), 0);
        due.is("search(63, 16) once more", x.search(63, 16), 15);
    }

    private static void searchAnswersHowManyAreKept() {
        due.part("Promise 7: \"Answers how many are kept.\"");
        for (int hits = 0; hits <= 16; hits++) {
            ShardSearch x = new ShardSearch();
            for (int doc = 0; doc < hits; doc++) {
                x.put(15 - doc, 2, 1);
            }
            x.refresh();
            for (int k = -1; k <= 17; k++) {
                due.is("search(4, " + k + ") of " + hits + " hits", x.search(4, k), Math.min(hits, Math.max(k, 0)));
            }
        }
    }

    private static void hitFrom0() {
        due.part("Promise 8: \"The document of kept hit number i, from 0\"");
        for (int doc = 0; doc <= 15; doc++) {
            ShardSearch x = new ShardSearch();
            x.put(doc, 0, 1);
            x.refresh();
            x.search(1, 1);
            due.is("hit(0) with document " + doc + " alone", x.hit(0), doc);
            due.is("hit(1)", x.hit(1), ShardSearch.NONE);
        }
        ShardSearch y = full();
        y.search(63, 16);
        for (int i = 0; i <= 15; i++) {
            due.is("hit(" + i + ") of 16", y.hit(i), i);
        }
    }

    private static void hitIsNoneIfThereIsNone() {
        due.part("Promise 8: \"NONE if there is none\"");
        for (int kept = 0; kept <= 16; kept++) {
            ShardSearch x = full();
            x.search(63, 16);
            x.search(63, kept);
            for (int i = 0; i <= 16; i++) {
                due.is("hit(" + i + ") of " + kept, x.hit(i), i < kept ? i : ShardSearch.NONE);
            }
            for (int i : Edges.outside(0, 15)) {
                due.is("hit(" + i + ") of " + kept, x.hit(i), ShardSearch.NONE);
            }
        }
    }

    private static void scoreIsAsItWasInThatSearch() {
        due.part("Promise 9: \"Its score, as it was in that search\"");
        ShardSearch x = new ShardSearch();
        x.put(15, 5, 9);
        x.put(0, 5, 0);
        x.refresh();
        due.is("search(32, 16)", x.search(32, 16), 1);
        due.is("score(0)", x.score(0), 288);
        x.put(15, 5, 1);
        due.is("score(0) after a put", x.score(0), 288);
        x.refresh();
        due.is("score(0) after a refresh", x.score(0), 288);
        x.put(0, 5, 9);
        x.refresh();
        due.is("score(0) after the weight has changed", x.score(0), 288);
        x.delete(15);
        x.refresh();
        due.is("score(0) after a delete", x.score(0), 288);
        Clusters.close(x, 0);
        due.is("score(0) with the shard closed", x.score(0), 288);
        due.is("hit(0) with the shard closed", x.hit(0), 15);
        Clusters.reopen(x, 0);
        x.search(32, 16);
        due.is("score(0) of the next search", x.score(0), 144);
        due.is("hit(0) of the next search", x.hit(0), 0);
    }

    private static void scoreIs0IfThereIsNone() {
        due.part("Promise 9: \"0 if there is none\"");
        for (int kept = 0; kept <= 16; kept++) {
            ShardSearch x = full();
            x.search(63, 16);
            x.search(63, kept);
            for (int i = 0; i <= 16; i++) {
                due.is("score(" + i + ") of " + kept, x.score(i), i < kept ? 864 : 0);
            }
            for (int i : Edges.outside(0, 15)) {
                due.is("score(" + i + ") of " + kept, x.score(i), 0);
            }
        }
    }

    private static void countIsAsItIs() {
        due.part("Promise 10: \"How often the document has the term, as it is (refreshed or not)\"");
        for (int doc = 0; doc <= 15; doc++) {
            ShardSearch x = new ShardSearch();
            x.put(doc, 5, 9);
            due.is("count(" + doc + ", 5) never refreshed", x.count(doc, 5), 9);
            x.refresh();
            due.is("count(" + doc + ", 5) refreshed", x.count(doc, 5), 9);
            x.put(doc, 5, 0);
            due.is("count(" + doc + ", 5) changed since", x.count(doc, 5), 0);
            x.delete(doc);
            due.is("count(" + doc + ", 5) deleted since", x.count(doc, 5), ShardSearch.NO_DOC);
        }
    }

    private static void countOfBadDoc() {
        due.part("Promise 10: \"BAD_DOC\"");
        ShardSearch x = full();
        for (int doc : Edges.outside(0, 15)) {
            due.is("count(" + doc + ", 0)", x.count(doc, 0), ShardSearch.BAD_DOC);
            due.is("count(" + doc + ", 5)", x.count(doc, 5), ShardSearch.BAD_DOC);
        }
        due.is("count(0, 0)", x.count(0, 0), 9);
        due.is("count(15, 5)", x.count(15, 5), 9);
    }

    private static void countOfBadTerm() {
        due.part("Promise 10: \"BAD_TERM\"");
        ShardSearch x = full();
        for (int term : Edges.outside(0, 5)) {
            due.is("count(0, " + term + ")", x.count(0, term), ShardSearch.BAD_TERM);
            due.is("count(15, " + term + ")", x.count(15, term), ShardSearch.BAD_TERM);
        }
        due.is("count(0, 5)", x.count(0, 5), 9);
        due.is("count(15, 0)", x.count(15, 0), 9);
    }

    private static void countInAClosedShard() {
        due.part("Promise 10: \"CLOSED\"");
        for (int doc = 0; doc <= 15; doc++) {
            int shard = doc % 3;
            ShardSearch x = new ShardSearch();
            x.crash(shard);
            x.put(doc, 0, 3);
            due.is("count(" + doc + ", 0) with one copy up", x.count(doc, 0), 3);
            x.crash(shard + 3);
            due.is("count(" + doc + ", 0) with no copy up", x.count(doc, 0), ShardSearch.CLOSED);
            x.restart(shard);
            due.is("count(" + doc + ", 0) with a copy up that isn't current", x.count(doc, 0), ShardSearch.CLOSED);
            x.restart(shard + 3);
            due.is("count(" + doc + ", 0) with all up", x.count(doc, 0), 3);
        }
    }

    private static void countOfNoDoc() {
        due.part("Promise 10: \"NO_DOC\"");
        for (int doc = 0; doc <= 15; doc++) {
            ShardSearch x = new ShardSearch();
            due.is("count(" + doc + ", 5), it never was", x.count(doc, 5), ShardSearch.NO_DOC);
            x.put(doc, 0, 0);
            due.is("count(" + doc + ", 5), it has all counts 0", x.count(doc, 5), 0);
            x.delete(doc);
            due.is("count(" + doc + ", 5), it was deleted", x.count(doc, 5), ShardSearch.NO_DOC);
        }
    }

    private static void openAnswersForShards0To2() {
        due.part("Promise 11: \"Whether the shard is open\"");
        for (int shard = 0; shard <= 2; shard++) {
            ShardSearch x = new ShardSearch();
            due.is("open(" + shard + ")", x.open(shard), true);
            Clusters.close(x, shard);
            for (int each = 0; each <= 2; each++) {
                due.is("open(" + each + ") with shard " + shard + " closed", x.open(each), each != shard);
            }
            Clusters.reopen(x, shard);
            due.is("open(" + shard + ") again", x.open(shard), true);
        }
    }

    private static void openIsFalseOutside0To2() {
        due.part("Promise 11: \"false if it is not in 0 to 2\"");
        ShardSearch x = full();
        for (int shard : Edges.outside(0, 2)) {
            due.is("open(" + shard + ")", x.open(shard), false);
        }
        due.is("open(0)", x.open(0), true);
        due.is("open(2)", x.open(2), true);
    }

    private static void inPlayIsNow() {
        due.part("Promise 12: \"How many documents are in play now.\"");
        ShardSearch x = new ShardSearch();
        due.is("inPlay() of none", x.inPlay(), 0);
        for (int doc = 0; doc <= 15; doc++) {
            x.put(doc, 0, doc % 2);
            x.refresh();
            due.is("inPlay() of documents 0 to " + doc, x.inPlay(), doc + 1);
        }
        for (int closed = 0; closed < 8; closed++) {
            ShardSearch y = full();
            int playing = 16;
            for (int shard = 0; shard <= 2; shard++) {
                if ((closed >> shard & 1) == 1) {
                    Clusters.close(y, shard);
                    playing -= shard == 0 ? 6 : 5;
                }
            }
            due.is("inPlay() with shards " + Integer.toBinaryString(closed) + " closed", y.inPlay(), playing);
        }
        for (int doc = 15; doc >= 0; doc--) {
            x.delete(doc);
            x.refresh();
            due.is("inPlay() without documents " + doc + " to 15", x.inPlay(), doc);
        }
    }

    private static void weightIsNow() {
        due.part("Promise 13: \"The weight of the term now\"");
        for (int term = 0; term <= 5; term++) {
            ShardSearch x = new ShardSearch();
            due.is("weight(" + term + ") of none", x.weight(term), 0);
            x.put(0, term, 1);
            x.put(1, 0, 0);
            x.put(2, 0, 0);
            due.is("weight(" + term + ") before a refresh", x.weight(term), 0);
            x.refresh();
            due.is("weight(" + term + ") after it", x.weight(term), 48);
            x.search(63, 16);
            Clusters.close(x, 2);
            due.is("weight(" + term + ") with shard 2 closed", x.weight(term), 32);
            Clusters.close(x, 1);
            due.is("weight(" + term + ") with shard 1 closed too", x.weight(term), 16);
            Clusters.close(x, 0);
            due.is("weight(" + term + ") with all closed", x.weight(term), 0);
            Clusters.reopen(x, 1);
            due.is("weight(" + term + ") with only shard 1 open", x.weight(term), 0);
        }
    }

    private static void weightOfBadTerm() {
        due.part("Promise 13: \"BAD_TERM\"");
        ShardSearch x = full();
        for (int term : Edges.outside(0, 5)) {
            due.is("weight(" + term + ")", x.weight(term), ShardSearch.BAD_TERM);
        }
        due.is("weight(0)", x.weight(0), 16);
        due.is("weight(5)", x.weight(5), 16);
    }

    // Documents 1 and 4 are in a closed shard, 0 exists, 3 doesn't.
    private static void putRefusesInOrder() {
        due.part("Promise 14: \"put ...: refusals are tested in the order in which they are named\"");
        int[] docs = {-1, 16, LEAST, GREATEST, 1, 4, 0, 3};
        int[] terms = {-1, 6, LEAST, GREATEST, 0, 5};
        int[] counts = {-1, 10, LEAST, GREATEST, 0, 9};
        for (int doc : docs) {
            for (int term : terms) {
                for (int count : counts) {
                    int want = 0;
                    if (doc < 0 || doc > 15) {
                        want = ShardSearch.BAD_DOC;
                    } else if (term < 0 || term > 5 || count < 0 || count > 9) {
                        want = ShardSearch.BAD_TERM;
                    } else if (doc % 3 == 1) {
                        want = ShardSearch.CLOSED;
                    }
                    ShardSearch x = shard1Closed();
                    due.is("put(" + doc + ", " + term + ", " + count + ")", x.put(doc, term, count), want);
                }
            }
        }
    }

    private static void deleteRefusesInOrder() {
        due.part("Promise 14: \"delete ...: refusals are tested in the order in which they are named\"");
        ShardSearch x = shard1Closed();
        for (int doc : Edges.outside(0, 15)) {
            due.is("delete(" + doc + "), bad before closed and before no document", x.delete(doc), ShardSearch.BAD_DOC);
        }
        due.is("delete(4), closed before no document", x.delete(4), ShardSearch.CLOSED);
        due.is("delete(1), closed", x.delete(1), ShardSearch.CLOSED);
        due.is("delete(3), no document", x.delete(3), ShardSearch.NO_DOC);
        due.is("delete(0)", x.delete(0), 0);
    }

    private static void countRefusesInOrder() {
        due.part("Promise 14: \"count: refusals are tested in the order in which they are named\"");
        int[] terms = {-1, 6, LEAST, GREATEST, 0, 5};
        ShardSearch x = shard1Closed();
        for (int term : terms) {
            for (int doc : Edges.outside(0, 15)) {
                due.is("count(" + doc + ", " + term + ")", x.count(doc, term), ShardSearch.BAD_DOC);
            }
            boolean bad = term < 0 || term > 5;
            due.is("count(1, " + term + "), closed", x.count(1, term), bad ? ShardSearch.BAD_TERM : ShardSearch.CLOSED);
            due.is("count(4, " + term + "), closed and no document", x.count(4, term), bad ? ShardSearch.BAD_TERM : ShardSearch.CLOSED);
            due.is("count(3, " + term + "), no document", x.count(3, term), bad ? ShardSearch.BAD_TERM : ShardSearch.NO_DOC);
            due.is("count(0, " + term + ")", x.count(0, term), bad ? ShardSearch.BAD_TERM : 0);
        }
    }

    /** Documents 0 and 1 exist, with all counts 0. */
    private static ShardSearch shard1Closed() {
        ShardSearch x = new ShardSearch();
        x.put(0, 0, 0);
        x.put(1, 0, 0);
        Clusters.close(x, 1);
        return x;
    }

    /** All 16 documents have all six terms 9 times, searchable. */
    private static ShardSearch full() {
        ShardSearch x = new ShardSearch();
        for (int doc = 0; doc <= 15; doc++) {
            for (int term = 0; term <= 5; term++) {
                x.put(doc, term, 9);
            }
        }
        x.refresh();
        return x;
    }

    /** Documents 0 to 5, searchable, each with the term of its own number once. */
    private static ShardSearch oneDocumentForEachTerm() {
        ShardSearch x = new ShardSearch();
        for (int term = 0; term <= 5; term++) {
            x.put(term, term, 1);
        }
        x.refresh();
        return x;
    }
}
