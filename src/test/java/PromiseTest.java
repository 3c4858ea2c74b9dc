/** Each promise of the document by itself, in small cases worked out by hand. */
public final class PromiseTest {
    private static final int BAD = Cases.BAD;
    private static final int NONE = Cases.NONE;
    private static final int LEAST = Cases.LEAST;
    private static final int MOST = Cases.MOST;

    /** For n = 3: couples that are no arc. */
    private static final int[][] NO_ARCS = {
        {1, 1}, {3, 3}, {0, 0}, {1, 0}, {3, 0}, {4, 1}, {1, 4}, {4, 4}, {-1, 1}, {1, -1},
        {5, 1}, {6, 1}, {1, 6}, {0, 6}, {LEAST, 1}, {1, LEAST}, {MOST, 1}, {1, MOST}, {LEAST, MOST},
    };

    private static final Answers ANSWERS = new Answers();

    public static void main(String[] args) {
        newObjectCountsWords();
        newObjectClampsWords();
        newObjectReadsSingle();
        newObjectHasNoScoresAndNoBans();
        scoreSetsAnArc();
        scoreRefuses();
        banSetsAnArc();
        banRefuses();
        bestIsTheGreatestScore();
        headIsOfTheFirstBestTree();
        headRefuses();
        bestTreesCountsTies();
        treesCountsFlatTreesOnly();
        bestWithLooksAtTreesThatHaveTheArc();
        bestWithoutLooksAtTheOthers();
        treesWithCounts();
        clearForgets();
        badComesBeforeNone();
        refusedCallsChangeNothing();
        questionsChangeNothing();
        objectsAreApart();
        ANSWERS.end();
    }

    private static void due(String call, long got, long want) {
        ANSWERS.due(call, got, want);
    }

    private static void due(String call, boolean got, boolean want) {
        ANSWERS.due(call, got, want);
    }

    // Promise 1

    private static void newObjectCountsWords() {
        int[] flat = {1, 3, 12, 55, 273};
        int[] flatSingle = {1, 2, 7, 30, 143};
        for (int n = 1; n <= 5; n++) {
            due("1: trees of " + n, new SpanDepParser(n, 0).trees(), flat[n - 1]);
            due("1: single trees of " + n, new SpanDepParser(n, 1).trees(), flatSingle[n - 1]);
        }
    }

    private static void newObjectClampsWords() {
        for (int words : new int[] {0, -1, -5, LEAST}) {
            SpanDepParser low = new SpanDepParser(words, 0);
            due("1: trees, words " + words, low.trees(), 1);
            due("1: head(1), words " + words, low.head(1), 0);
            due("1: head(2), words " + words, low.head(2), BAD);
        }
        for (int words : new int[] {6, 7, 100, MOST}) {
            SpanDepParser high = new SpanDepParser(words, 0);
            due("1: trees, words " + words, high.trees(), 273);
            due("1: head(5), words " + words, high.head(5), 0);
            due("1: head(6), words " + words, high.head(6), BAD);
        }
    }

    private static void newObjectReadsSingle() {
        for (int single : new int[] {1, 2, -1, 256, LEAST, MOST}) {
            due("1: trees, single " + single, new SpanDepParser(3, single).trees(), 7);
        }
        due("1: trees, single 0", new SpanDepParser(3, 0).trees(), 12);
    }

    private static void newObjectHasNoScoresAndNoBans() {
        for (int n = 1; n <= 5; n++) {
            SpanDepParser x = new SpanDepParser(n, 0);
            for (int h = 0; h <= n; h++) {
                for (int d = 1; d <= n; d++) {
                    if (h != d) {
                        due("1: bestWith(" + h + ", " + d + ")", x.bestWith(h, d), 0);
                    }
                }
            }
            due("1: bestTrees is trees", x.bestTrees(), x.trees());
            due("1: nothing banned", x.clear(), 0);
        }
    }

    // Promise 2

    private static void scoreSetsAnArc() {
        SpanDepParser x = new SpanDepParser(3, 0);
        due("2: score(2, 3, 1000)", x.score(2, 3, 1000), true);
        due("2: bestWith after 1000", x.bestWith(2, 3), 1000);
        due("2: score(2, 3, -1000)", x.score(2, 3, -1000), true);
        due("2: bestWith after -1000", x.bestWith(2, 3), -1000);
        due("2: score(2, 3, 7)", x.score(2, 3, 7), true);
        due("2: bestWith after 7", x.bestWith(2, 3), 7);
        due("2: the arc the other way is another", x.bestWith(3, 2), 0);
        due("2: score(2, 3, 0)", x.score(2, 3, 0), true);
        due("2: best after 0", x.best(), 0);
        x.ban(0, 3, true);
        due("2: a banned arc takes a score", x.score(0, 3, 9), true);
        x.ban(0, 3, false);
        due("2: it has it when allowed again", x.bestWith(0, 3), 9);
    }

    private static void scoreRefuses() {
        SpanDepParser x = new SpanDepParser(3, 0);
        for (int[] couple : NO_ARCS) {
            due("2: score of no arc", x.score(couple[0], couple[1], 5), false);
        }
        for (int score : new int[] {1001, -1001, 70000, LEAST, MOST}) {
            due("2: score " + score, x.score(0, 1, score), false);
        }
        due("2: no arc and no score", x.score(1, 1, 1001), false);
        due("2: best is untouched", x.best(), 0);
        due("2: bestTrees is untouched", x.bestTrees(), 12);
    }

    // Promise 3

    private static void banSetsAnArc() {
        SpanDepParser x = new SpanDepParser(3, 0);
        due("3: ban", x.ban(0, 1, true), true);
        due("3: ban again", x.ban(0, 1, true), true);
        due("3: none has it", x.treesWith(0, 1), 0);
        due("3: fewer trees", x.trees(), 5);
        due("3: allow", x.ban(0, 1, false), true);
        due("3: allow again", x.ban(0, 1, false), true);
        due("3: all trees", x.trees(), 12);
        x.ban(1, 2, true);
        due("3: the arc the other way stays", x.treesWith(2, 1), 3);
        due("3: one ban counted", x.clear(), 1);
    }

    private static void banRefuses() {
        SpanDepParser x = new SpanDepParser(3, 0);
        for (int[] couple : NO_ARCS) {
            due("3: ban of no arc", x.ban(couple[0], couple[1], true), false);
            due("3: allowing no arc", x.ban(couple[0], couple[1], false), false);
        }
        due("3: trees untouched", x.trees(), 12);
        due("3: nothing banned", x.clear(), 0);
    }

    // Promise 4

    private static void bestIsTheGreatestScore() {
        SpanDepParser x = new SpanDepParser(5, 0);
        for (int h = 0; h <= 5; h++) {
            for (int d = 1; d <= 5; d++) {
                x.score(h, d, -1000);
            }
        }
        due("4: the least score", x.best(), -5000);
        for (int d = 1; d <= 5; d++) {
            x.score(0, d, 1000);
        }
        due("4: the greatest score", x.best(), 5000);

        SpanDepParser crossing = new SpanDepParser(4, 0);
        crossing.score(1, 3, 100);
        crossing.score(2, 4, 100);
        due("4: crossing arcs are not had together", crossing.best(), 100);

        SpanDepParser overRoot = new SpanDepParser(3, 0);
        overRoot.score(0, 2, 100);
        overRoot.score(1, 3, 100);
        due("4: nor is an arc over a word of the root", overRoot.best(), 100);

        SpanDepParser circle = new SpanDepParser(2, 0);
        circle.score(1, 2, 100);
        circle.score(2, 1, 100);
        due("4: nor is a circle", circle.best(), 100);

        SpanDepParser one = new SpanDepParser(3, 1);
        one.score(0, 1, 100);
        one.score(0, 3, 100);
        due("4: one word at the root", one.best(), 100);

        SpanDepParser none = new SpanDepParser(1, 0);
        none.ban(0, 1, true);
        due("4: no flat tree", none.best(), NONE);
    }

    // Promise 5

    private static void headIsOfTheFirstBestTree() {
        SpanDepParser flat = new SpanDepParser(5, 0);
        for (int d = 1; d <= 5; d++) {
            due("5: first of all trees", flat.head(d), 0);
        }
        SpanDepParser single = new SpanDepParser(5, 1);
        for (int d = 1; d <= 5; d++) {
            due("5: first of the single trees", single.head(d), d == 1 ? 0 : 1);
        }
        // Left are (0, 3, 1), (2, 0, 2), (2, 3, 0), (3, 3, 0): the lowest word decides, not the last.
        SpanDepParser ties = new SpanDepParser(3, 1);
        ties.ban(1, 2, true);
        dueHeads("5: four ties", ties, new int[] {0, 3, 1});
        ties.ban(0, 1, true);
        dueHeads("5: three ties", ties, new int[] {2, 0, 2});
        ties.score(0, 3, 1);
        dueHeads("5: two ties", ties, new int[] {2, 3, 0});
        ties.score(3, 1, 1);
        dueHeads("5: the best is last", ties, new int[] {3, 3, 0});

        SpanDepParser none = new SpanDepParser(2, 0);
        none.ban(0, 1, true);
        none.ban(0, 2, true);
        due("5: no tree, head(1)", none.head(1), NONE);
        due("5: no tree, head(2)", none.head(2), NONE);
    }

    private static void dueHeads(String call, SpanDepParser x, int[] heads) {
        for (int d = 1; d <= heads.length; d++) {
            due(call + ", head(" + d + ")", x.head(d), heads[d - 1]);
        }
    }

    private static void headRefuses() {
        for (int n = 1; n <= 5; n++) {
            SpanDepParser x = new SpanDepParser(n, 0);
            for (int d : new int[] {0, -1, n + 1, 6, 100, LEAST, MOST}) {
                due("5: head(" + d + ") of " + n, x.head(d), BAD);
            }
            due("5: head(n) of " + n, x.head(n), 0);
        }
    }

    // Promise 6

    private static void bestTreesCountsTies() {
        SpanDepParser x = new SpanDepParser(3, 0);
        due("6: all are best", x.bestTrees(), 12);
        x.score(0, 1, 1);
        due("6: those with the arc", x.bestTrees(), 7);
        x.score(0, 2, 1);
        due("6: those with both", x.bestTrees(), 2);
        x.score(0, 3, 1);
        due("6: the one with all", x.bestTrees(), 1);
        x.ban(0, 1, true);
        x.ban(0, 2, true);
        x.ban(0, 3, true);
        due("6: none", x.bestTrees(), 0);
    }

    // Promise 7

    private static void treesCountsFlatTreesOnly() {
        SpanDepParser x = new SpanDepParser(3, 0);
        x.score(0, 1, 1000);
        due("7: scores do not matter", x.trees(), 12);
        // Only the heads (2, 0, 1) are left: a tree, but (1, 3) covers 2, which does not come to 1.
        Cases.allowOnly(x, 2, 0, 1);
        due("7: a tree that is not flat", x.trees(), 0);
        Cases.allowOnly(x, 2, 3, 1);
        due("7: a circle", x.trees(), 0);
        Cases.allowOnly(x, 3, 1, 0);
        due("7: a flat tree", x.trees(), 1);

        SpanDepParser single = new SpanDepParser(3, 1);
        Cases.allowOnly(single, 0, 1, 0);
        due("7: two words at the root", single.trees(), 0);
        Cases.allowOnly(single, 0, 1, 1);
        due("7: one word at the root", single.trees(), 1);
    }

    // Promise 8

    private static void bestWithLooksAtTreesThatHaveTheArc() {
        SpanDepParser x = new SpanDepParser(3, 0);
        x.score(0, 2, 50);
        x.score(1, 3, -20);
        x.score(0, 1, 4);
        due("8: the best has it", x.bestWith(0, 2), 54);
        due("8: the best has it not", x.bestWith(1, 3), -16);
        x.ban(1, 3, true);
        due("8: banned", x.bestWith(1, 3), NONE);
        for (int[] couple : NO_ARCS) {
            due("8: no arc", x.bestWith(couple[0], couple[1]), BAD);
        }
        SpanDepParser single = new SpanDepParser(2, 1);
        single.ban(2, 1, true);
        due("8: allowed, but in no flat tree", single.bestWith(0, 2), NONE);
    }

    // Promise 9

    private static void bestWithoutLooksAtTheOthers() {
        SpanDepParser x = new SpanDepParser(3, 0);
        x.score(0, 2, 50);
        x.score(0, 1, -4);
        x.score(2, 1, -7);
        x.score(3, 1, -30);
        due("9: the best has it", x.bestWithout(0, 2), -4);
        due("9: the best has it not", x.bestWithout(2, 1), 46);
        x.ban(0, 2, true);
        due("9: without a banned arc", x.bestWithout(0, 2), -4);
        for (int[] couple : NO_ARCS) {
            due("9: no arc", x.bestWithout(couple[0], couple[1]), BAD);
        }
        SpanDepParser one = new SpanDepParser(1, 0);
        due("9: all have it", one.bestWithout(0, 1), NONE);
        one.ban(0, 1, true);
        due("9: there is none", one.bestWithout(0, 1), NONE);
    }

    // Promise 10

    private static void treesWithCounts() {
        SpanDepParser x = new SpanDepParser(3, 0);
        x.score(1, 3, -1000);
        due("10: (0, 1)", x.treesWith(0, 1), 7);
        due("10: (0, 2)", x.treesWith(0, 2), 4);
        due("10: (1, 3)", x.treesWith(1, 3), 2);
        due("10: (3, 1)", x.treesWith(3, 1), 2);
        x.ban(1, 3, true);
        due("10: banned", x.treesWith(1, 3), 0);
        due("10: (0, 1) with a ban", x.treesWith(0, 1), 5);
        for (int[] couple : NO_ARCS) {
            due("10: no arc", x.treesWith(couple[0], couple[1]), BAD);
        }
    }

    // Promise 11

    private static void clearForgets() {
        for (int n = 1; n <= 5; n++) {
            SpanDepParser x = new SpanDepParser(n, 1);
            int all = x.trees();
            for (int h = 0; h <= n; h++) {
                for (int d = 1; d <= n; d++) {
                    x.score(h, d, 10 + h + d);
                    x.ban(h, d, true);
                    x.ban(h, d, true);
                }
            }
            due("11: every arc of " + n, x.clear(), n * n);
            due("11: none is left", x.clear(), 0);
            due("11: all trees of " + n, x.trees(), all);
            due("11: all scores 0", x.best(), 0);
            due("11: all are best", x.bestTrees(), all);
        }
        SpanDepParser scored = new SpanDepParser(2, 0);
        scored.score(0, 1, 5);
        scored.ban(0, 2, true);
        scored.ban(0, 2, false);
        due("11: a ban taken back", scored.clear(), 0);
        due("11: scores go without bans", scored.best(), 0);
    }

    // Promise 12

    private static void badComesBeforeNone() {
        SpanDepParser x = new SpanDepParser(3, 0);
        for (int d = 1; d <= 3; d++) {
            x.ban(0, d, true);
        }
        due("12: head(1)", x.head(1), NONE);
        due("12: head(0)", x.head(0), BAD);
        due("12: head(4)", x.head(4), BAD);
        for (int[] couple : NO_ARCS) {
            due("12: bestWith", x.bestWith(couple[0], couple[1]), BAD);
            due("12: bestWithout", x.bestWithout(couple[0], couple[1]), BAD);
            due("12: treesWith", x.treesWith(couple[0], couple[1]), BAD);
        }
        due("12: bestWith an arc", x.bestWith(1, 2), NONE);
        due("12: bestWithout an arc", x.bestWithout(1, 2), NONE);
        due("12: treesWith an arc", x.treesWith(1, 2), 0);
    }

    private static void refusedCallsChangeNothing() {
        SpanDepParser x = new SpanDepParser(3, 0);
        x.score(0, 1, 3);
        x.score(1, 2, 4);
        x.score(2, 3, -5);
        x.ban(0, 3, true);
        x.ban(1, 3, true);
        for (int[] couple : NO_ARCS) {
            x.score(couple[0], couple[1], 1000);
            x.ban(couple[0], couple[1], true);
            x.ban(couple[0], couple[1], false);
            x.bestWith(couple[0], couple[1]);
            x.bestWithout(couple[0], couple[1]);
            x.treesWith(couple[0], couple[1]);
        }
        x.score(1, 2, 1001);
        x.score(0, 1, -1001);
        x.head(4);
        due("12: best", x.best(), 2);
        due("12: bestTrees", x.bestTrees(), 1);
        due("12: head(1)", x.head(1), 0);
        due("12: head(2)", x.head(2), 1);
        due("12: head(3)", x.head(3), 2);
        due("12: bestWith(1, 2)", x.bestWith(1, 2), 2);
        due("12: bans", x.clear(), 2);
    }

    /** Only score, ban and clear are told to change something. */
    private static void questionsChangeNothing() {
        SpanDepParser x = new SpanDepParser(3, 1);
        x.score(0, 2, 6);
        x.score(2, 3, -2);
        x.ban(2, 1, true);
        for (int time = 1; time <= 3; time++) {
            // Left are (0, 1, 1), (0, 1, 2), (0, 3, 1), (3, 1, 0) and (3, 3, 0).
            due("the best, time " + time, x.best(), 0);
            due("the number of best, time " + time, x.bestTrees(), 4);
            due("the number of trees, time " + time, x.trees(), 5);
            for (int h = 0; h <= 3; h++) {
                x.bestWith(h, 1);
                x.bestWithout(h, 2);
                x.treesWith(h, 3);
            }
            due("head(1), time " + time, x.head(1), 0);
            due("head(2), time " + time, x.head(2), 1);
            due("head(3), time " + time, x.head(3), 1);
        }
        x.ban(2, 1, false);
        due("the score that a ban hid", x.bestWith(0, 2), 4);
        due("no ban is left", x.clear(), 0);
    }

    private static void objectsAreApart() {
        SpanDepParser one = new SpanDepParser(2, 0);
        SpanDepParser other = new SpanDepParser(2, 0);
        one.score(0, 1, 9);
        one.ban(0, 2, true);
        due("12: the other's best", other.best(), 0);
        due("12: the other's trees", other.trees(), 3);
    }
}
