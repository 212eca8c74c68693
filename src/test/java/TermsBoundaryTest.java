/** The sentences of "What it is" and "Terms": one test each, on both sides of each boundary and far beyond. */
public final class TermsBoundaryTest {
    private static final Due due = new Due();

    public static void main(String[] args) {
        atMost512Calls();
        documentsAre0To15();
        documentsCountTerms0To5();
        eachTermIsThere0To9Times();
        aDocumentExistsOrNot();
        documentBelongsToShardDModulo3();
        copiesAreOnNodesSAndSPlus3();
        nodesAre0To5();
        aNodeIsUpOrDown();
        allNodesAreUpAtTheStart();
        currentWithAllChangesSoFar();
        openIfSomeCurrentCopyIsUp();
        changeIsMadeOnAllCurrentCopiesThatAreUp();
        copyThatIsDownIsNotCurrentAnyMore();
        nodeComesUpBesideACurrentCopy();
        nodeComesUpWithoutACurrentCopy();
        copyThatIsUpIsMadeCurrentAtOnce();
        searchableOnlyAfterARefresh();
        searchableAsAtTheLastRefreshWhileOpen();
        searchableIsBesideTheDocumentsAsTheyAre();
        inPlayIfSearchableAndOpen();
        nIsHowManyAreInPlay();
        termAtLeastOnce();
        weightIsRoundedDown();
        weightIs0IfNoneHasTheTerm();
        scoreIsTheSumOfCountTimesWeight();
        hitsHaveAScoreAbove0();
        greatestScoreFirst();
        smallerDocumentFirstOfEqualScores();
        callsBelowChangeNothing();
        due.end();
    }

    private static void atMost512Calls() {
        due.part("What it is: \"An object is used for at most 512 calls after it has been made; what later calls answer is free.\"");
        ShardSearch x = new ShardSearch();
        for (int call = 1; call <= 511; call++) {
            due.is("put(15, 5, _) as call " + call, x.put(15, 5, call % 10), (call - 1) % 10);
        }
        due.is("count(15, 5) as call 512", x.count(15, 5), 1);

        ShardSearch y = new ShardSearch();
        for (int call = 1; call <= 509; call++) {
            due.is("put(0, 0, 10) as call " + call, y.put(0, 0, 10), ShardSearch.BAD_TERM);
        }
        due.is("put(0, 0, 9) as call 510", y.put(0, 0, 9), 0);
        due.is("refresh() as call 511", y.refresh(), 3);
        due.is("search(1, 1) as call 512", y.search(1, 1), 1);

        // Free answers, but no call may throw.
        for (int later = 0; later < 100000; later++) {
            y.put(later % 16, later % 6, later % 10);
            y.crash(later % 7 - 1);
            y.refresh();
            y.search(later, later % 20);
            y.hit(later % 20 - 1);
            y.score(later % 20 - 1);
            y.restart(later % 5);
            y.delete(later % 17);
        }
    }

    private static void documentsAre0To15() {
        due.part("Terms: \"DOCUMENTS are 0 to 15\"");
        ShardSearch x = new ShardSearch();
        for (int doc = 0; doc <= 15; doc++) {
            due.is("put(" + doc + ", 0, 1)", x.put(doc, 0, 1), 0);
            due.is("count(" + doc + ", 0)", x.count(doc, 0), 1);
        }
        x.refresh();
        due.is("inPlay()", x.inPlay(), 16);
        for (int doc : Edges.outside(0, 15)) {
            due.is("put(" + doc + ", 0, 1)", x.put(doc, 0, 1), ShardSearch.BAD_DOC);
            due.is("count(" + doc + ", 0)", x.count(doc, 0), ShardSearch.BAD_DOC);
            due.is("delete(" + doc + ")", x.delete(doc), ShardSearch.BAD_DOC);
        }
        for (int doc = 0; doc <= 15; doc++) {
            due.is("delete(" + doc + ")", x.delete(doc), 0);
        }
    }

    private static void documentsCountTerms0To5() {
        due.part("Terms: \"a document counts TERMS 0 to 5\"");
        ShardSearch x = new ShardSearch();
        for (int term = 0; term <= 5; term++) {
            due.is("put(0, " + term + ", _)", x.put(0, term, term + 1), 0);
        }
        for (int term : Edges.outside(0, 5)) {
            due.is("put(0, " + term + ", 9)", x.put(0, term, 9), ShardSearch.BAD_TERM);
            due.is("count(0, " + term + ")", x.count(0, term), ShardSearch.BAD_TERM);
            due.is("weight(" + term + ")", x.weight(term), ShardSearch.BAD_TERM);
        }
        for (int term = 0; term <= 5; term++) {
            due.is("count(0, " + term + ")", x.count(0, term), term + 1);
        }
        // Term 5 of a document and term 0 of the next one must not be the same.
        for (int doc = 1; doc <= 15; doc++) {
            x.put(doc, 0, 9);
            due.is("count(" + (doc - 1) + ", 5)", x.count(doc - 1, 5), doc == 1 ? 6 : 0);
        }
    }

    private static void eachTermIsThere0To9Times() {
        due.part("Terms: \"each 0 to 9 times\"");
        for (int doc = 0; doc <= 15; doc += 15) {
            for (int term = 0; term <= 5; term += 5) {
                ShardSearch x = new ShardSearch();
                int old = 0;
                for (int count = 9; count >= 0; count--) {
                    String call = "put(" + doc + ", " + term + ", " + count + ")";
                    due.is(call, x.put(doc, term, count), old);
                    due.is("count after " + call, x.count(doc, term), count);
                    old = count;
                }
                x.put(doc, term, 9);
                for (int count : Edges.outside(0, 9)) {
                    String call = "put(" + doc + ", " + term + ", " + count + ")";
                    due.is(call, x.put(doc, term, count), ShardSearch.BAD_TERM);
                    due.is("count after " + call, x.count(doc, term), 9);
                }
            }
        }
    }

    private static void aDocumentExistsOrNot() {
        due.part("Terms: \"a document EXISTS or not\"");
        ShardSearch x = new ShardSearch();
        due.is("count(3, 0), never put", x.count(3, 0), ShardSearch.NO_DOC);
        x.put(3, 0, 0);
        x.refresh();
        for (int term = 0; term <= 5; term++) {
            due.is("count(3, " + term + ") with all counts 0", x.count(3, term), 0);
        }
        due.is("inPlay() with all counts 0", x.inPlay(), 1);
        due.is("delete(3) with all counts 0", x.delete(3), 0);
        due.is("count(3, 0), deleted", x.count(3, 0), ShardSearch.NO_DOC);
        due.is("delete(3), deleted", x.delete(3), ShardSearch.NO_DOC);
    }

    private static void documentBelongsToShardDModulo3() {
        due.part("Terms: \"Document d belongs to SHARD d % 3\"");
        for (int shard = 0; shard <= 2; shard++) {
            ShardSearch x = new ShardSearch();
            for (int doc = 0; doc <= 15; doc++) {
                x.put(doc, 0, 1);
            }
            x.refresh();
            Clusters.close(x, shard);
            for (int doc = 0; doc <= 15; doc++) {
                boolean closed = doc % 3 == shard;
                String with = " with shard " + shard + " closed";
                due.is("count(" + doc + ", 0)" + with, x.count(doc, 0), closed ? ShardSearch.CLOSED : 1);
                due.is("put(" + doc + ", 0, 2)" + with, x.put(doc, 0, 2), closed ? ShardSearch.CLOSED : 1);
                due.is("delete(" + doc + ")" + with, x.delete(doc), closed ? ShardSearch.CLOSED : 0);
            }
            due.is("inPlay() with shard " + shard + " closed", x.inPlay(), shard == 0 ? 10 : 11);
        }
    }

    private static void copiesAreOnNodesSAndSPlus3() {
        due.part("Terms: \"each shard has two COPIES, on nodes s and s + 3 for shard s\"");
        for (int down = 0; down < 64; down++) {
            ShardSearch x = new ShardSearch();
            for (int node = 0; node <= 5; node++) {
                if ((down >> node & 1) == 1) {
                    x.crash(node);
                }
            }
            for (int shard = 0; shard <= 2; shard++) {
                int bothCopies = (1 << shard) + (1 << shard + 3);
                due.is("open(" + shard + ") with nodes " + Integer.toBinaryString(down) + " down",
                    x.open(shard), (down & bothCopies) != bothCopies);
            }
        }
    }

    private static void nodesAre0To5() {
        due.part("Terms: \"NODES being 0 to 5\"");
        ShardSearch x = new ShardSearch();
        for (int node : Edges.outside(0, 5)) {
            due.is("crash(" + node + ")", x.crash(node), ShardSearch.BAD_NODE);
            due.is("restart(" + node + ")", x.restart(node), ShardSearch.BAD_NODE);
        }
        for (int node = 0; node <= 5; node++) {
            due.is("crash(" + node + ")", x.crash(node), 1);
        }
        for (int node : Edges.outside(0, 5)) {
            due.is("restart(" + node + ") with all down", x.restart(node), ShardSearch.BAD_NODE);
        }
        for (int node = 0; node <= 5; node++) {
            due.is("restart(" + node + ")", x.restart(node), 1);
        }
    }

    private static void aNodeIsUpOrDown() {
        due.part("Terms: \"a node is UP or DOWN\"");
        for (int node = 0; node <= 5; node++) {
            ShardSearch x = new ShardSearch();
            x.crash(node);
            x.crash(node);
            due.is("one restart(" + node + ") after two crashes", x.restart(node), 1);
            due.is("a second one", x.restart(node), 0);
            due.is("one crash(" + node + ") after two restarts", x.crash(node), 1);
            due.is("a second one", x.crash(node), 0);
        }
    }

    private static void allNodesAreUpAtTheStart() {
        due.part("Terms: \"All are up at the start.\"");
        for (int node = 0; node <= 5; node++) {
            due.is("restart(" + node + ") first", new ShardSearch().restart(node), 0);
            due.is("crash(" + node + ") first", new ShardSearch().crash(node), 1);
        }
    }

    private static void currentWithAllChangesSoFar() {
        due.part("Terms: \"A copy is CURRENT if it has all changes made to its shard so far.\"");
        for (int shard = 0; shard <= 2; shard++) {
            for (int copy = shard; copy <= 5; copy += 3) {
                for (int before = 0; before <= 2; before++) {
                    for (int missed = 0; missed <= 2; missed++) {
                        ShardSearch x = new ShardSearch();
                        putTimes(x, shard, before);
                        x.crash(copy);
                        putTimes(x, shard, missed);
                        putTimes(x, (shard + 1) % 3, 2);
                        putTimes(x, (shard + 2) % 3, 2);
                        x.crash(other(copy));
                        x.restart(copy);
                        due.is("open(" + shard + ") on copy " + copy + " alone, which has " + before + " changes and missed " + missed,
                            x.open(shard), missed == 0);
                    }
                }
            }
        }
    }

    private static void openIfSomeCurrentCopyIsUp() {
        due.part("Terms: \"A shard is OPEN if some current copy's node is up.\"");
        for (int shard = 0; shard <= 2; shard++) {
            for (int copy = shard; copy <= 5; copy += 3) {
                String of = " of shard " + shard;
                ShardSearch x = new ShardSearch();
                due.is("open with two current copies up" + of, x.open(shard), true);
                x.crash(copy);
                due.is("open with one current copy up" + of, x.open(shard), true);
                x.put(shard, 0, 1);
                x.crash(other(copy));
                due.is("open with no copy up" + of, x.open(shard), false);
                x.restart(copy);
                due.is("open with one copy up that is not current" + of, x.open(shard), false);
                x.restart(other(copy));
                due.is("open with the current copy up again" + of, x.open(shard), true);
            }
        }
    }

    private static void changeIsMadeOnAllCurrentCopiesThatAreUp() {
        due.part("Terms: \"A change to a document is made on all current copies of its shard whose nodes are up\"");
        for (int doc = 0; doc <= 15; doc++) {
            for (int copy = doc % 3; copy <= 5; copy += 3) {
                ShardSearch x = new ShardSearch();
                x.put(doc, 5, 9);
                x.crash(copy);
                due.is("count(" + doc + ", 5) on copy " + other(copy) + " alone", x.count(doc, 5), 9);

                ShardSearch y = new ShardSearch();
                y.put(doc, 5, 9);
                y.delete(doc);
                y.crash(copy);
                due.is("count(" + doc + ", 5) deleted, on copy " + other(copy) + " alone", y.count(doc, 5), ShardSearch.NO_DOC);
            }
        }
    }

    private static void copyThatIsDownIsNotCurrentAnyMore() {
        due.part("Terms: \"a current copy whose node is down is not current any more then\"");
        for (int doc = 0; doc <= 15; doc++) {
            int shard = doc % 3;
            for (int copy = shard; copy <= 5; copy += 3) {
                String alone = "open(" + shard + ") on copy " + copy + " alone";
                ShardSearch x = new ShardSearch();
                x.put(doc, 0, 1);
                x.crash(copy);
                x.crash(other(copy));
                x.put(doc, 0, 2);
                x.delete(doc);
                x.restart(copy);
                due.is(alone + ", no change was made", x.open(shard), true);

                ShardSearch y = new ShardSearch();
                y.put(doc, 0, 1);
                y.crash(copy);
                y.put(doc, 0, 2);
                y.crash(other(copy));
                y.restart(copy);
                due.is(alone + ", put(" + doc + ", 0, 2) missed", y.open(shard), false);

                ShardSearch z = new ShardSearch();
                z.put(doc, 0, 1);
                z.crash(copy);
                z.delete(doc);
                z.crash(other(copy));
                z.restart(copy);
                due.is(alone + ", delete(" + doc + ") missed", z.open(shard), false);

                ShardSearch made = new ShardSearch();
                made.crash(copy);
                made.put(doc, 0, 0);
                made.crash(other(copy));
                made.restart(copy);
                due.is(alone + ", put(" + doc + ", 0, 0) missed", made.open(shard), false);
            }
        }
    }

    private static void nodeComesUpBesideACurrentCopy() {
        due.part("Terms: \"When a node comes up ... that happens at once from a current copy whose node is up\"");
        for (int shard = 0; shard <= 2; shard++) {
            for (int copy = shard; copy <= 5; copy += 3) {
                ShardSearch x = new ShardSearch();
                x.crash(copy);
                x.put(shard, 0, 7);
                x.restart(copy);
                x.crash(other(copy));
                due.is("open(" + shard + ") on copy " + copy, x.open(shard), true);
                due.is("count(" + shard + ", 0) on copy " + copy, x.count(shard, 0), 7);
                due.is("put(" + shard + ", 0, 8) on copy " + copy, x.put(shard, 0, 8), 7);
                x.crash(copy);
                x.restart(other(copy));
                due.is("open(" + shard + ") on copy " + other(copy) + ", which missed that", x.open(shard), false);
            }
        }
    }

    private static void nodeComesUpWithoutACurrentCopy() {
        due.part("Terms: \"from a current copy whose node is up, if there is one\"");
        for (int shard = 0; shard <= 2; shard++) {
            for (int copy = shard; copy <= 5; copy += 3) {
                ShardSearch x = new ShardSearch();
                x.crash(copy);
                x.put(shard, 0, 7);
                x.crash(other(copy));
                x.restart(copy);
                x.restart((shard + 1) % 3);
                due.is("open(" + shard + ") with no current copy up", x.open(shard), false);
                x.crash(copy);
                x.restart(copy);
                due.is("open(" + shard + ") after another restart", x.open(shard), false);
                due.is("restart(" + copy + ") that is up", x.restart(copy), 0);
                due.is("open(" + shard + ") after that", x.open(shard), false);
                x.crash(copy);
                x.restart(other(copy));
                due.is("open(" + shard + ") on the current copy alone", x.open(shard), true);
                due.is("count(" + shard + ", 0) on it", x.count(shard, 0), 7);
                x.crash(other(copy));
                x.restart(copy);
                due.is("open(" + shard + ") on the other, which was down all along", x.open(shard), false);
            }
        }
    }

    private static void copyThatIsUpIsMadeCurrentAtOnce() {
        due.part("Terms: \"or a copy on a node that is up could be made current ... so while a shard is open, "
            + "all its copies on nodes that are up are current\"");
        for (int shard = 0; shard <= 2; shard++) {
            for (int copy = shard; copy <= 5; copy += 3) {
                ShardSearch x = new ShardSearch();
                x.crash(copy);
                x.put(shard, 0, 7);
                x.crash(other(copy));
                x.restart(copy);
                x.restart(other(copy));
                x.crash(other(copy));
                due.is("open(" + shard + ") on copy " + copy + ", which waited", x.open(shard), true);
                due.is("count(" + shard + ", 0) on it", x.count(shard, 0), 7);
                x.put(shard, 0, 8);
                x.crash(copy);
                x.restart(other(copy));
                due.is("open(" + shard + ") on copy " + other(copy) + ", which missed a change", x.open(shard), false);
            }
        }
    }

    private static void searchableOnlyAfterARefresh() {
        due.part("Terms: \"Changes are SEARCHABLE only after a refresh\"");
        for (int doc = 0; doc <= 15; doc++) {
            ShardSearch x = new ShardSearch();
            x.put(doc, 5, 1);
            due.is("inPlay() before the first refresh", x.inPlay(), 0);
            due.is("weight(5) before it", x.weight(5), 0);
            due.is("search(32, 16) before it", x.search(32, 16), 0);
            x.refresh();
            due.is("inPlay() after it", x.inPlay(), 1);
            due.is("weight(5) after it", x.weight(5), 16);
            due.is("search(32, 16) after it", x.search(32, 16), 1);
            x.put(doc, 5, 9);
            x.search(32, 16);
            due.is("score(0) before the second", x.score(0), 16);
            x.refresh();
            x.search(32, 16);
            due.is("score(0) after the second", x.score(0), 144);
            x.delete(doc);
            due.is("search(32, 16) before the third", x.search(32, 16), 1);
            x.refresh();
            due.is("search(32, 16) after the third", x.search(32, 16), 0);
            due.is("inPlay() after the third", x.inPlay(), 0);
        }
    }

    private static void searchableAsAtTheLastRefreshWhileOpen() {
        due.part("Terms: \"for each shard there is ... what they were at its last refresh while it was open\"");
        for (int shard = 0; shard <= 2; shard++) {
            ShardSearch x = new ShardSearch();
            x.put(shard, 0, 1);
            x.refresh();
            x.put(shard, 0, 2);
            x.put(shard + 3, 0, 3);
            Clusters.close(x, shard);
            x.refresh();
            Clusters.reopen(x, shard);
            due.is("inPlay() after a refresh while shard " + shard + " was closed", x.inPlay(), 1);
            x.search(1, 16);
            due.is("score(0) after it", x.score(0), 16);
            x.refresh();
            due.is("inPlay() after one while it is open", x.inPlay(), 2);
            x.search(1, 16);
            due.is("score(0) after that", x.score(0), 48);
            due.is("score(1) after that", x.score(1), 32);

            ShardSearch never = new ShardSearch();
            never.put(shard, 0, 1);
            Clusters.close(never, shard);
            never.refresh();
            Clusters.reopen(never, shard);
            due.is("inPlay() with shard " + shard + " never open at a refresh", never.inPlay(), 0);
        }
    }

    private static void searchableIsBesideTheDocumentsAsTheyAre() {
        due.part("Terms: \"there is, besides its documents as they are, what they were at its last refresh\"");
        for (int shard = 0; shard <= 2; shard++) {
            int changed = shard + 3;
            int deleted = shard + 6;
            int made = shard + 9;
            ShardSearch x = new ShardSearch();
            x.put(changed, 0, 2);
            x.put(deleted, 0, 1);
            x.refresh();
            x.put(changed, 0, 5);
            x.delete(deleted);
            x.put(made, 0, 9);
            due.is("count(" + changed + ", 0), changed since", x.count(changed, 0), 5);
            due.is("count(" + deleted + ", 0), deleted since", x.count(deleted, 0), ShardSearch.NO_DOC);
            due.is("count(" + made + ", 0), made since", x.count(made, 0), 9);
            due.is("search(1, 16)", x.search(1, 16), 2);
            due.is("hit(0)", x.hit(0), changed);
            due.is("score(0)", x.score(0), 32);
            due.is("hit(1)", x.hit(1), deleted);
            due.is("score(1)", x.score(1), 16);

            // Put again, it is another document as it is, and still the old one as searchable.
            x.put(deleted, 1, 7);
            due.is("count(" + deleted + ", 0), put again with another term", x.count(deleted, 0), 0);
            due.is("search(1, 16) after that", x.search(1, 16), 2);
            due.is("score(1) after that", x.score(1), 16);
            due.is("search(2, 16) after that", x.search(2, 16), 0);
        }
    }

    private static void inPlayIfSearchableAndOpen() {
        due.part("Terms: \"the documents IN PLAY are those which, as searchable, exist and belong to open shards\"");
        for (int shard = 0; shard <= 2; shard++) {
            ShardSearch x = new ShardSearch();
            x.put(shard, 0, 0);
            due.is("inPlay(): exists, but not as searchable", x.inPlay(), 0);
            x.refresh();
            due.is("inPlay(): exists as searchable, without any term", x.inPlay(), 1);
            x.delete(shard);
            due.is("inPlay(): exists as searchable only", x.inPlay(), 1);
            Clusters.close(x, shard);
            due.is("inPlay(): shard " + shard + " is closed", x.inPlay(), 0);
            x.restart(shard);
            due.is("inPlay(): shard " + shard + " is open on one copy", x.inPlay(), 1);
            x.crash(shard);
            x.restart(shard + 3);
            due.is("inPlay(): shard " + shard + " is open on the other copy", x.inPlay(), 1);
            x.refresh();
            due.is("inPlay(): exists no more", x.inPlay(), 0);
        }
    }

    private static void nIsHowManyAreInPlay() {
        due.part("Terms: \"N is how many these are\"");
        ShardSearch x = new ShardSearch();
        for (int doc = 0; doc <= 15; doc++) {
            x.put(doc, 0, doc == 0 ? 1 : 0);
            due.is("weight(0) with document " + doc + " not searchable", x.weight(0), 16 * doc);
            x.refresh();
            due.is("weight(0) with documents 0 to " + doc, x.weight(0), 16 * (doc + 1));
            x.search(1, 16);
            due.is("score(0) with documents 0 to " + doc, x.score(0), 16 * (doc + 1));
        }
        Clusters.close(x, 1);
        due.is("weight(0) without the 5 of shard 1", x.weight(0), 16 * 11);
        Clusters.close(x, 2);
        due.is("weight(0) without the 5 of shard 2 too", x.weight(0), 16 * 6);
        x.search(1, 16);
        due.is("score(0) without them", x.score(0), 16 * 6);
        x.delete(3);
        due.is("weight(0) with document 3 deleted, but searchable", x.weight(0), 16 * 6);
        x.refresh();
        due.is("weight(0) without document 3", x.weight(0), 16 * 5);
        Clusters.reopen(x, 1);
        due.is("weight(0) with the 5 of shard 1 again", x.weight(0), 16 * 10);
    }

    private static void termAtLeastOnce() {
        due.part("Terms: \"D(t) how many of them have term t at least once\"");
        for (int term = 0; term <= 5; term++) {
            ShardSearch x = new ShardSearch();
            x.put(0, term, 1);
            x.put(15, term, 0);
            x.refresh();
            due.is("weight(" + term + ") with counts 1 and 0", x.weight(term), 32);
            x.put(15, term, 1);
            x.refresh();
            due.is("weight(" + term + ") with counts 1 and 1", x.weight(term), 16);
            x.put(15, term, 9);
            x.refresh();
            due.is("weight(" + term + ") with counts 1 and 9", x.weight(term), 16);
            x.put(0, term, 0);
            x.refresh();
            due.is("weight(" + term + ") with counts 0 and 9", x.weight(term), 32);
            x.put(1, term, 9);
            x.refresh();
            Clusters.close(x, 1);
            due.is("weight(" + term + ") with a closed one that has it", x.weight(term), 32);
        }
    }

    private static void weightIsRoundedDown() {
        due.part("Terms: \"The WEIGHT of a term is 16 * N / D(t), rounded down\"");
        for (int playing = 1; playing <= 16; playing++) {
            for (int having = 1; having <= playing; having++) {
                ShardSearch x = documentsWithTerm(playing, having, 3);
                int weight = 0;
                while ((weight + 1) * having <= 16 * playing) {
                    weight++;
                }
                due.is("weight(3) with N " + playing + " and D " + having, x.weight(3), weight);
            }
        }
        due.is("weight(3) with N 16 and D 1, the greatest", documentsWithTerm(16, 1, 3).weight(3), 256);
        due.is("weight(3) with N 16 and D 16, the smallest", documentsWithTerm(16, 16, 3).weight(3), 16);
        due.is("weight(3), 24 with nothing to round", documentsWithTerm(3, 2, 3).weight(3), 24);
        due.is("weight(3), 26 and two thirds", documentsWithTerm(5, 3, 3).weight(3), 26);
        due.is("weight(3), 18 and two thirds", documentsWithTerm(7, 6, 3).weight(3), 18);
    }

    private static void weightIs0IfNoneHasTheTerm() {
        due.part("Terms: \"(0 if D(t) is 0)\"");
        for (int playing = 0; playing <= 16; playing++) {
            ShardSearch x = documentsWithTerm(playing, 0, 3);
            for (int term = 0; term <= 5; term++) {
                due.is("weight(" + term + ") with N " + playing + " and D 0", x.weight(term), 0);
            }
            due.is("search(63, 16) with N " + playing + " and all D 0", x.search(63, 16), 0);
        }
        ShardSearch x = documentsWithTerm(1, 1, 3);
        due.is("weight(3) with D 1", x.weight(3), 16);
        Clusters.close(x, 0);
        due.is("weight(3) with the only one closed", x.weight(3), 0);
    }

    private static void scoreIsTheSumOfCountTimesWeight() {
        due.part("Terms: \"The score of a document for a set of terms is the sum over these terms of its count times the term's weight.\"");
        ShardSearch x = new ShardSearch();
        for (int doc = 0; doc <= 15; doc++) {
            x.put(doc, 0, 0);
        }
        for (int term = 0; term <= 5; term++) {
            x.put(15, term, 9);
        }
        x.refresh();
        due.is("search(63, 16)", x.search(63, 16), 1);
        due.is("score(0), the greatest that can be", x.score(0), 6 * 9 * 256);
        due.is("search(31, 16)", x.search(31, 16), 1);
        due.is("score(0) of five terms", x.score(0), 5 * 9 * 256);
        due.is("search(32, 16)", x.search(32, 16), 1);
        due.is("score(0) of one term", x.score(0), 9 * 256);

        // Three documents with weights 16, 24 and 48: each weight is rounded before it is summed.
        ShardSearch y = new ShardSearch();
        y.put(0, 0, 1);
        y.put(1, 0, 2);
        y.put(2, 0, 3);
        y.put(1, 1, 4);
        y.put(2, 1, 5);
        y.put(2, 2, 9);
        y.refresh();
        due.is("search(7, 16)", y.search(7, 16), 3);
        due.is("score(0)", y.score(0), 3 * 16 + 5 * 24 + 9 * 48);
        due.is("score(1)", y.score(1), 2 * 16 + 4 * 24);
        due.is("score(2)", y.score(2), 16);

        ShardSearch z = documentsWithTerm(5, 3, 3);
        z.put(0, 3, 3);
        z.refresh();
        z.search(8, 16);
        due.is("score(0), the weight rounded before it is taken 3 times", z.score(0), 3 * 26);
    }

    private static void hitsHaveAScoreAbove0() {
        due.part("Terms: \"The HITS are the documents in play with a score above 0\"");
        for (int having = 0; having <= 16; having++) {
            ShardSearch x = documentsWithTerm(16, having, 3);
            due.is("search(8, 16) with " + having + " that have the term", x.search(8, 16), having);
            due.is("search(55, 16) for all other terms", x.search(55, 16), 0);
        }
        ShardSearch x = documentsWithTerm(16, 16, 3);
        x.search(8, 16);
        due.is("score(15), the smallest above 0", x.score(15), 16);
        x.put(7, 3, 0);
        x.refresh();
        due.is("search(8, 16) with one at count 0", x.search(8, 16), 15);
        Clusters.close(x, 2);
        due.is("search(8, 16) with shard 2 closed", x.search(8, 16), 10);
    }

    // Of 16 documents 14 have term 0 (weight 18) and 15 have term 1 (weight 17): scores that are 1 apart.
    private static void greatestScoreFirst() {
        due.part("Terms: \"the greatest score first\"");
        ShardSearch x = new ShardSearch();
        for (int doc = 2; doc <= 14; doc++) {
            x.put(doc, 0, 1);
            x.put(doc, 1, 1);
        }
        x.put(0, 1, 1);
        x.put(1, 1, 1);
        x.put(15, 0, 1);
        x.refresh();
        due.is("search(3, 16)", x.search(3, 16), 16);
        for (int i = 0; i <= 12; i++) {
            due.is("hit(" + i + ")", x.hit(i), i + 2);
            due.is("score(" + i + ")", x.score(i), 35);
        }
        due.is("hit(13)", x.hit(13), 15);
        due.is("score(13)", x.score(13), 18);
        due.is("hit(14)", x.hit(14), 0);
        due.is("score(14)", x.score(14), 17);
        due.is("hit(15)", x.hit(15), 1);
        due.is("score(15)", x.score(15), 17);

        ShardSearch rising = new ShardSearch();
        ShardSearch falling = new ShardSearch();
        for (int doc = 0; doc <= 8; doc++) {
            rising.put(doc, 0, doc + 1);
            falling.put(doc, 0, 9 - doc);
        }
        rising.refresh();
        falling.refresh();
        rising.search(1, 16);
        falling.search(1, 16);
        for (int i = 0; i <= 8; i++) {
            due.is("hit(" + i + ") of rising scores", rising.hit(i), 8 - i);
            due.is("score(" + i + ") of rising scores", rising.score(i), 16 * (9 - i));
            due.is("hit(" + i + ") of falling scores", falling.hit(i), i);
            due.is("score(" + i + ") of falling scores", falling.score(i), 16 * (9 - i));
        }
    }

    private static void smallerDocumentFirstOfEqualScores() {
        due.part("Terms: \"of equal ones the smaller document first\"");
        ShardSearch x = new ShardSearch();
        for (int doc = 15; doc >= 0; doc--) {
            x.put(doc, 0, 1);
        }
        x.refresh();
        x.search(1, 16);
        for (int i = 0; i <= 15; i++) {
            due.is("hit(" + i + ") of 16 equal ones", x.hit(i), i);
        }
        x.search(1, 1);
        due.is("hit(0) with only one kept", x.hit(0), 0);

        // Two groups of equal scores, mixed: 9, 8, 9, 8 and so on.
        for (int doc = 0; doc <= 15; doc++) {
            x.put(doc, 0, 9 - doc % 2);
        }
        x.refresh();
        x.search(1, 16);
        for (int i = 0; i <= 7; i++) {
            due.is("hit(" + i + ") of the greater group", x.hit(i), 2 * i);
            due.is("hit(" + (i + 8) + ") of the smaller group", x.hit(i + 8), 2 * i + 1);
        }

        // 2 times 24 for document 1 and 1 time 48 for document 2: equal by different terms.
        ShardSearch y = new ShardSearch();
        y.put(2, 0, 1);
        y.put(1, 1, 2);
        y.put(0, 1, 1);
        y.refresh();
        due.is("search(3, 16)", y.search(3, 16), 3);
        due.is("hit(0)", y.hit(0), 1);
        due.is("hit(1)", y.hit(1), 2);
        due.is("score(1)", y.score(1), y.score(0));
    }

    private static void callsBelowChangeNothing() {
        due.part("Terms: \"The calls below change nothing that any call answers.\"");
        int[] arguments = {Integer.MIN_VALUE, -1, 0, 1, 2, 3, 5, 6, 15, 16, Integer.MAX_VALUE};
        ShardSearch asked = copiesDown();
        ShardSearch quiet = copiesDown();
        for (int argument : arguments) {
            asked.hit(argument);
            asked.score(argument);
            asked.count(argument, 0);
            asked.count(0, argument);
            asked.count(1, argument);
            asked.count(2, argument);
            asked.open(argument);
            asked.inPlay();
            asked.weight(argument);
        }
        int[][] later = {
            {Calls.HIT, 0}, {Calls.SCORE, 0}, {Calls.HIT, 1}, {Calls.SCORE, 1},
            {Calls.OPEN, 0}, {Calls.OPEN, 1}, {Calls.OPEN, 2}, {Calls.IN_PLAY}, {Calls.WEIGHT, 0},
            {Calls.CRASH, 2}, {Calls.RESTART, 5}, {Calls.OPEN, 2}, {Calls.RESTART, 4}, {Calls.OPEN, 1},
            {Calls.COUNT, 0, 0}, {Calls.COUNT, 1, 0}, {Calls.COUNT, 2, 1}, {Calls.COUNT, 6, 0}, {Calls.COUNT, 9, 0},
            {Calls.CRASH, 0}, {Calls.RESTART, 3}, {Calls.OPEN, 0}, {Calls.RESTART, 0}, {Calls.COUNT, 0, 0},
            {Calls.REFRESH}, {Calls.IN_PLAY}, {Calls.SEARCH, 63, 16}, {Calls.HIT, 0}, {Calls.SCORE, 0},
        };
        for (int[] call : later) {
            due.is(Calls.text(call), Calls.make(asked, call), Calls.make(quiet, call));
        }
    }

    /** Hits are kept; copy 3 is down and not current, copy 5 is down and current; shard 1 is closed. */
    private static ShardSearch copiesDown() {
        ShardSearch x = new ShardSearch();
        x.put(0, 0, 2);
        x.put(1, 0, 3);
        x.put(2, 1, 4);
        x.refresh();
        x.search(1, 16);
        x.crash(3);
        x.put(0, 0, 4);
        x.put(6, 0, 1);
        x.crash(5);
        Clusters.close(x, 1);
        return x;
    }

    /** The first documents exist, searchable; the first of these have the term once and no other term. */
    private static ShardSearch documentsWithTerm(int documents, int having, int term) {
        ShardSearch x = new ShardSearch();
        for (int doc = 0; doc < documents; doc++) {
            x.put(doc, term, doc < having ? 1 : 0);
        }
        x.refresh();
        return x;
    }

    /** Changes to the shard, each of which gives a document a count that it didn't have. */
    private static void putTimes(ShardSearch x, int shard, int times) {
        for (int time = 0; time < times; time++) {
            int old = x.count(shard, 0);
            x.put(shard, 0, old == 1 ? 2 : 1);
        }
    }

    private static int other(int copy) {
        return (copy + 3) % 6;
    }
}
