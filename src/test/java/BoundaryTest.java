import java.util.Arrays;
import java.util.List;
import java.util.function.Consumer;

/**
 * The sentences of promises 1 to 12 that name a boundary, each with a test of its own: at the
 * boundary, just inside it, just outside it, and far outside it where a number is given.
 */
public final class BoundaryTest {
    private static final int BAD = Cases.BAD;
    private static final int NONE = Cases.NONE;
    private static final int[] FLAT = {1, 3, 12, 55, 273};
    private static final int[] FLAT_SINGLE = {1, 2, 7, 30, 143};
    private static final int[] GOOD_SCORES = {-1000, -999, -1, 0, 1, 999, 1000};
    /** Among them numbers that would turn into good scores if bits were lost. */
    private static final int[] BAD_SCORES = {
        -1001, 1001, -1002, 1002, -1500, 1500, -65535, 65537, -16777217, 16777217, BAD, NONE,
        Cases.LEAST, Cases.LEAST + 1, Cases.MOST - 1, Cases.MOST,
    };
    private static final Answers ANSWERS = new Answers();

    public static void main(String[] args) {
        ANSWERS.sentence("1: n is words clamped into 1..5", BoundaryTest::wordsAreClamped);
        ANSWERS.sentence("1: only trees in which just one word has the head 0 count",
                BoundaryTest::singleLeavesOneRootWord);
        ANSWERS.sentence("1: not 0 means true", BoundaryTest::notZeroMeansTrue);
        ANSWERS.sentence("1: all scores are 0", BoundaryTest::newScoresAreZero);
        ANSWERS.sentence("1: nothing is banned", BoundaryTest::nothingIsBannedAtFirst);
        ANSWERS.sentence("2: (h, d) no arc: refused, answers false", BoundaryTest::scoreOfNoArc);
        ANSWERS.sentence("2: score outside -1000..1000: refused, answers false",
                BoundaryTest::scoreOutside);
        ANSWERS.sentence("2: else true", BoundaryTest::scoreOfArc);
        ANSWERS.sentence("3: (h, d) no arc: refused, answers false", BoundaryTest::banOfNoArc);
        ANSWERS.sentence("3: else true", BoundaryTest::banOfArc);
        ANSWERS.sentence("4: NONE if there is no flat tree", BoundaryTest::bestOfNone);
        ANSWERS.sentence("5: the first of the flat trees with the greatest score",
                BoundaryTest::headOfFirstBest);
        ANSWERS.sentence("5: NONE if there is no flat tree", BoundaryTest::headOfNone);
        ANSWERS.sentence("5: BAD if d is outside 1..n", BoundaryTest::headOutside);
        ANSWERS.sentence("6: the number of flat trees with the greatest score",
                BoundaryTest::bestTreesFromOneToAll);
        ANSWERS.sentence("6: 0 if there is no flat tree", BoundaryTest::bestTreesOfNone);
        ANSWERS.sentence("7: the number of flat trees, also none",
                BoundaryTest::treesFromNoneToAll);
        ANSWERS.sentence("8: NONE if none has it", BoundaryTest::bestWithNone);
        ANSWERS.sentence("8: BAD if (h, d) is no arc", BoundaryTest::bestWithNoArc);
        ANSWERS.sentence("9: NONE if all have it", BoundaryTest::bestWithoutAllHaveIt);
        ANSWERS.sentence("9: (or there is none)", BoundaryTest::bestWithoutNone);
        ANSWERS.sentence("9: BAD if (h, d) is no arc", BoundaryTest::bestWithoutNoArc);
        ANSWERS.sentence("10: the number that have the arc, also none",
                BoundaryTest::treesWithFromNoneToAll);
        ANSWERS.sentence("10: BAD if (h, d) is no arc", BoundaryTest::treesWithNoArc);
        ANSWERS.sentence("11: makes all scores 0", BoundaryTest::clearMakesScoresZero);
        ANSWERS.sentence("11: allows all arcs", BoundaryTest::clearAllowsArcs);
        ANSWERS.sentence("11: answers how many arcs were banned, also none",
                BoundaryTest::clearCountsFromNoneToAll);
        ANSWERS.sentence("12: head: BAD is tested before NONE", BoundaryTest::headBadFirst);
        ANSWERS.sentence("12: bestWith: BAD is tested before NONE", BoundaryTest::bestWithBadFirst);
        ANSWERS.sentence("12: bestWithout: BAD is tested before NONE",
                BoundaryTest::bestWithoutBadFirst);
        ANSWERS.sentence("12: a refused score changes nothing",
                BoundaryTest::refusedScoreChangesNothing);
        ANSWERS.sentence("12: a refused ban changes nothing",
                BoundaryTest::refusedBanChangesNothing);
        ANSWERS.sentence("12: a question that is refused changes nothing",
                BoundaryTest::refusedQuestionChangesNothing);
        ANSWERS.end();
    }

    private static void due(String call, long got, long want) {
        ANSWERS.due(call, got, want);
    }

    private static void due(String call, boolean got, boolean want) {
        ANSWERS.due(call, got, want);
    }

    private static String arcOf(int n, int[] arc) {
        return "(" + arc[0] + ", " + arc[1] + ") of " + n;
    }

    /** A test that each kind of object goes through: each number of words, single and not. */
    private interface KindTest {
        void run(int n, int single);
    }

    private static void everyKind(KindTest test) {
        for (int n = 1; n <= 5; n++) {
            test.run(n, 0);
            test.run(n, 1);
        }
    }

    private static int flatTrees(int n, int single) {
        return single == 0 ? FLAT[n - 1] : FLAT_SINGLE[n - 1];
    }

    // Promise 1

    private static void wordsAreClamped() {
        for (int words : Cases.numbers()) {
            int n = words <= 1 ? 1 : words >= 5 ? 5 : words;
            for (int single = 0; single <= 1; single++) {
                SpanDepParser x = new SpanDepParser(words, single);
                String made = " of words " + words + " single " + single;
                due("trees()" + made, x.trees(), flatTrees(n, single));
                due("head(1)" + made, x.head(1), 0);
                due("head(n)" + made, x.head(n), n == 1 ? 0 : single);
                due("head(n + 1)" + made, x.head(n + 1), BAD);
                due("ban(0, n, true)" + made, x.ban(0, n, true), true);
                due("ban(0, n + 1, true)" + made, x.ban(0, n + 1, true), false);
            }
        }
    }

    private static void singleLeavesOneRootWord() {
        for (int n = 1; n <= 5; n++) {
            for (int[] heads : FlatTrees.of(n, false)) {
                int counts = FlatTrees.rootWords(heads) == 1 ? 1 : 0;
                String only = " with only " + Arrays.toString(heads);
                due("single: trees()" + only, Cases.onlyTree(1, heads).trees(), counts);
                due("not single: trees()" + only, Cases.onlyTree(0, heads).trees(), 1);
            }
        }
        // The heads (0, 0) would be the best, the first, and one more: no question counts them.
        SpanDepParser x = new SpanDepParser(2, 1);
        x.score(0, 1, 100);
        x.score(0, 2, 100);
        due("single: trees()", x.trees(), 2);
        due("single: best()", x.best(), 100);
        due("single: bestTrees()", x.bestTrees(), 2);
        due("single: head(2)", x.head(2), 1);
        due("single: bestWith(0, 1)", x.bestWith(0, 1), 100);
        due("single: bestWithout(2, 1)", x.bestWithout(2, 1), 100);
        due("single: treesWith(0, 1)", x.treesWith(0, 1), 1);
    }

    private static void notZeroMeansTrue() {
        for (int n = 1; n <= 5; n++) {
            for (int single : Cases.numbers()) {
                due("trees() of " + n + " single " + single, new SpanDepParser(n, single).trees(),
                        flatTrees(n, single == 0 ? 0 : 1));
            }
            for (int bit = 0; bit < 32; bit++) {
                due("trees() of " + n + " single 1 << " + bit,
                        new SpanDepParser(n, 1 << bit).trees(), flatTrees(n, 1));
            }
        }
    }

    private static void newScoresAreZero() {
        everyKind(BoundaryTest::dueZeroScores);
    }

    private static void dueZeroScores(int n, int single) {
        dueZeroScores(new SpanDepParser(n, single), n, single);
    }

    private static void dueZeroScores(SpanDepParser x, int n, int single) {
        due("best() of " + n, x.best(), 0);
        due("bestTrees() of " + n, x.bestTrees(), flatTrees(n, single));
        for (int[] arc : Cases.arcs(n)) {
            due("bestWith " + arcOf(n, arc), x.bestWith(arc[0], arc[1]),
                    FlatTrees.of(n, single != 0).stream().anyMatch(heads -> Cases.has(heads, arc))
                            ? 0 : NONE);
        }
    }

    private static void nothingIsBannedAtFirst() {
        everyKind((n, single) -> {
            SpanDepParser x = new SpanDepParser(n, single);
            dueAllAllowed(x, n, single);
            due("clear() of " + n, x.clear(), 0);
        });
    }

    private static void dueAllAllowed(SpanDepParser x, int n, int single) {
        List<int[]> flat = FlatTrees.of(n, single != 0);
        due("trees() of " + n, x.trees(), flatTrees(n, single));
        for (int[] arc : Cases.arcs(n)) {
            due("treesWith " + arcOf(n, arc), x.treesWith(arc[0], arc[1]),
                    flat.stream().filter(heads -> Cases.has(heads, arc)).count());
        }
    }

    // Promise 2

    private static void scoreOfNoArc() {
        everyKind((n, single) -> {
            for (List<int[]> row : Cases.noArcs(n)) {
                SpanDepParser x = new SpanDepParser(n, single);
                for (int[] couple : row) {
                    due("score " + arcOf(n, couple), x.score(couple[0], couple[1], 5), false);
                    due("score " + arcOf(n, couple), x.score(couple[0], couple[1], 0), false);
                    due("score " + arcOf(n, couple), x.score(couple[0], couple[1], 1001), false);
                }
                due("best() after them", x.best(), 0);
            }
        });
    }

    private static void scoreOutside() {
        everyKind((n, single) -> {
            for (int[] arc : Cases.arcs(n)) {
                SpanDepParser x = new SpanDepParser(n, single);
                x.score(arc[0], arc[1], 7);
                int kept = x.bestWith(arc[0], arc[1]);
                for (int score : BAD_SCORES) {
                    due("score " + score, x.score(arc[0], arc[1], score), false);
                    due("bestWith after " + score, x.bestWith(arc[0], arc[1]), kept);
                }
            }
        });
    }

    private static void scoreOfArc() {
        everyKind((n, single) -> {
            for (int[] arc : Cases.arcs(n)) {
                SpanDepParser x = new SpanDepParser(n, single);
                for (int score : GOOD_SCORES) {
                    due("score " + score, x.score(arc[0], arc[1], score), true);
                    due("the same score " + score, x.score(arc[0], arc[1], score), true);
                    due("bestWith after " + score, x.bestWith(arc[0], arc[1]), score);
                }
                x.ban(arc[0], arc[1], true);
                due("score of a banned arc", x.score(arc[0], arc[1], -3), true);
                due("bestWith a banned arc", x.bestWith(arc[0], arc[1]), NONE);
                x.ban(arc[0], arc[1], false);
                due("bestWith when allowed again", x.bestWith(arc[0], arc[1]), -3);
            }
        });
    }

    // Promise 3

    private static void banOfNoArc() {
        everyKind((n, single) -> {
            for (List<int[]> row : Cases.noArcs(n)) {
                SpanDepParser x = new SpanDepParser(n, single);
                for (int[] couple : row) {
                    due("ban " + arcOf(n, couple), x.ban(couple[0], couple[1], true), false);
                    due("allow " + arcOf(n, couple), x.ban(couple[0], couple[1], false), false);
                    due("ban " + arcOf(n, couple), x.ban(couple[0], couple[1], true), false);
                }
                due("trees() after them", x.trees(), flatTrees(n, single));
                due("clear() after them", x.clear(), 0);
            }
        });
    }

    private static void banOfArc() {
        everyKind((n, single) -> {
            for (int[] arc : Cases.arcs(n)) {
                SpanDepParser x = new SpanDepParser(n, single);
                int with = x.treesWith(arc[0], arc[1]);
                due("allow what is allowed " + arcOf(n, arc), x.ban(arc[0], arc[1], false), true);
                due("treesWith " + arcOf(n, arc), x.treesWith(arc[0], arc[1]), with);
                for (int time = 1; time <= 2; time++) {
                    due("ban " + arcOf(n, arc), x.ban(arc[0], arc[1], true), true);
                    due("treesWith " + arcOf(n, arc), x.treesWith(arc[0], arc[1]), 0);
                    due("trees()", x.trees(), flatTrees(n, single) - with);
                }
                due("allow " + arcOf(n, arc), x.ban(arc[0], arc[1], false), true);
                due("treesWith " + arcOf(n, arc), x.treesWith(arc[0], arc[1]), with);
                due("trees()", x.trees(), flatTrees(n, single));
            }
        });
    }

    // Promise 4

    private static void bestOfNone() {
        everyKind((n, single) -> {
            for (SpanDepParser x : Cases.withoutFlatTree(n, single)) {
                due("best() of " + n, x.best(), NONE);
                Cases.scoreAll(x, n, 1000);
                due("best() of " + n + " with the greatest scores", x.best(), NONE);
            }
            // One tree, though of the least score there is, is not none.
            for (int[] heads : FlatTrees.of(n, single != 0)) {
                SpanDepParser x = Cases.onlyTree(single, heads);
                due("best() of one tree", x.best(), 0);
                Cases.scoreAll(x, n, -1000);
                due("best() of one tree", x.best(), -1000 * n);
                x.ban(heads[n - 1], n, true);
                due("best() without its last arc", x.best(), NONE);
                x.ban(heads[n - 1], n, false);
                due("best() with it again", x.best(), -1000 * n);
            }
        });
    }

    // Promise 5

    private static void headOfFirstBest() {
        everyKind((n, single) -> {
            SpanDepParser all = new SpanDepParser(n, single);
            for (int d = 1; d <= n; d++) {
                due("head(" + d + ") of all", all.head(d), single == 0 || d == 1 ? 0 : 1);
            }
            // Each tree is once the only best one, the very first and the very last too.
            for (int[] heads : FlatTrees.of(n, single != 0)) {
                SpanDepParser x = new SpanDepParser(n, single);
                for (int d = 1; d <= n; d++) {
                    x.score(heads[d - 1], d, 1);
                }
                for (int d = 1; d <= n; d++) {
                    due("head(" + d + ") of the best " + Arrays.toString(heads), x.head(d),
                            heads[d - 1]);
                }
            }
        });
        // Four are best: (2, 0, 2), (2, 3, 0), (3, 1, 0), (3, 3, 0). Those that begin with 0 are worse.
        SpanDepParser ties = new SpanDepParser(3, 1);
        ties.score(0, 1, -1);
        due("head(1) of four ties", ties.head(1), 2);
        due("head(2) of four ties", ties.head(2), 0);
        due("head(3) of four ties", ties.head(3), 2);
    }

    private static void headOfNone() {
        everyKind((n, single) -> {
            for (SpanDepParser x : Cases.withoutFlatTree(n, single)) {
                for (int d = 1; d <= n; d++) {
                    due("head(" + d + ") of " + n, x.head(d), NONE);
                }
            }
            for (int[] heads : FlatTrees.of(n, single != 0)) {
                SpanDepParser x = Cases.onlyTree(single, heads);
                Cases.scoreAll(x, n, -1000);
                for (int d = 1; d <= n; d++) {
                    due("head(" + d + ") of one tree", x.head(d), heads[d - 1]);
                }
            }
        });
    }

    private static void headOutside() {
        everyKind((n, single) -> {
            SpanDepParser x = new SpanDepParser(n, single);
            for (int d : Cases.numbers()) {
                boolean inside = 1 <= d && d <= n;
                due("head(" + d + ") of " + n, x.head(d),
                        !inside ? BAD : single == 0 || d == 1 ? 0 : 1);
            }
        });
    }

    // Promise 6

    private static void bestTreesFromOneToAll() {
        everyKind((n, single) -> {
            SpanDepParser all = new SpanDepParser(n, single);
            due("bestTrees() of all of " + n, all.bestTrees(), flatTrees(n, single));
            Cases.scoreAll(all, n, -1000);
            due("bestTrees() of the least scores", all.bestTrees(), flatTrees(n, single));
            for (int[] heads : FlatTrees.of(n, single != 0)) {
                SpanDepParser x = new SpanDepParser(n, single);
                for (int d = 1; d <= n; d++) {
                    x.score(heads[d - 1], d, 1);
                }
                due("bestTrees() of the only best", x.bestTrees(), 1);
            }
        });
        // Two are best, and one of them goes.
        SpanDepParser two = new SpanDepParser(2, 1);
        due("bestTrees() of two", two.bestTrees(), 2);
        two.score(0, 1, -1);
        due("bestTrees() when one is worse by 1", two.bestTrees(), 1);
    }

    private static void bestTreesOfNone() {
        everyKind((n, single) -> {
            for (SpanDepParser x : Cases.withoutFlatTree(n, single)) {
                due("bestTrees() of " + n, x.bestTrees(), 0);
            }
            for (int[] heads : FlatTrees.of(n, single != 0)) {
                due("bestTrees() of one tree", Cases.onlyTree(single, heads).bestTrees(), 1);
            }
        });
    }

    // Promise 7

    private static void treesFromNoneToAll() {
        everyKind((n, single) -> {
            due("trees() of " + n, new SpanDepParser(n, single).trees(), flatTrees(n, single));
            for (SpanDepParser x : Cases.withoutFlatTree(n, single)) {
                due("trees() of none of " + n, x.trees(), 0);
            }
            for (int[] heads : FlatTrees.of(n, single != 0)) {
                SpanDepParser x = Cases.onlyTree(single, heads);
                due("trees() of one tree", x.trees(), 1);
                x.ban(heads[0], 1, true);
                due("trees() without its first arc", x.trees(), 0);
                x.ban(heads[0], 1, false);
                due("trees() with it again", x.trees(), 1);
            }
        });
    }

    // Promise 8

    private static void bestWithNone() {
        everyKind((n, single) -> {
            for (SpanDepParser x : Cases.withoutFlatTree(n, single)) {
                for (int[] arc : Cases.arcs(n)) {
                    due("bestWith " + arcOf(n, arc), x.bestWith(arc[0], arc[1]), NONE);
                }
            }
            for (int[] heads : FlatTrees.of(n, single != 0)) {
                SpanDepParser x = Cases.onlyTree(single, heads);
                Cases.scoreAll(x, n, -1000);
                for (int[] arc : Cases.arcs(n)) {
                    due("bestWith " + arcOf(n, arc) + " of one tree", x.bestWith(arc[0], arc[1]),
                            Cases.has(heads, arc) ? -1000 * n : NONE);
                }
            }
        });
        // The arc itself is allowed, but the one tree that had it is gone.
        SpanDepParser gone = new SpanDepParser(2, 1);
        due("bestWith(0, 2) while (2, 1) is allowed", gone.bestWith(0, 2), 0);
        gone.ban(2, 1, true);
        due("bestWith(0, 2) when (2, 1) is banned", gone.bestWith(0, 2), NONE);
    }

    private static void bestWithNoArc() {
        everyKind((n, single) -> {
            for (List<int[]> row : Cases.noArcs(n)) {
                SpanDepParser x = new SpanDepParser(n, single);
                for (int[] couple : row) {
                    due("bestWith " + arcOf(n, couple), x.bestWith(couple[0], couple[1]), BAD);
                }
            }
            SpanDepParser x = new SpanDepParser(n, single);
            for (int[] arc : Cases.arcs(n)) {
                due("bestWith " + arcOf(n, arc), x.bestWith(arc[0], arc[1]), 0);
            }
        });
    }

    // Promise 9

    private static void bestWithoutAllHaveIt() {
        everyKind((n, single) -> {
            for (int[] heads : FlatTrees.of(n, single != 0)) {
                SpanDepParser x = Cases.onlyTree(single, heads);
                Cases.scoreAll(x, n, -1000);
                for (int[] arc : Cases.arcs(n)) {
                    due("bestWithout " + arcOf(n, arc) + " of one tree",
                            x.bestWithout(arc[0], arc[1]),
                            Cases.has(heads, arc) ? NONE : -1000 * n);
                }
            }
        });
        // All but one have (0, 1); then all have it.
        SpanDepParser x = new SpanDepParser(2, 0);
        due("bestWithout(0, 1) while (2, 1) is allowed", x.bestWithout(0, 1), 0);
        x.ban(2, 1, true);
        due("bestWithout(0, 1) when (2, 1) is banned", x.bestWithout(0, 1), NONE);
        due("bestWithout(0, 2), which one of two has", x.bestWithout(0, 2), 0);
    }

    private static void bestWithoutNone() {
        everyKind((n, single) -> {
            for (SpanDepParser x : Cases.withoutFlatTree(n, single)) {
                for (int[] arc : Cases.arcs(n)) {
                    due("bestWithout " + arcOf(n, arc), x.bestWithout(arc[0], arc[1]), NONE);
                }
            }
        });
    }

    private static void bestWithoutNoArc() {
        everyKind((n, single) -> {
            for (List<int[]> row : Cases.noArcs(n)) {
                SpanDepParser x = new SpanDepParser(n, single);
                for (int[] couple : row) {
                    due("bestWithout " + arcOf(n, couple), x.bestWithout(couple[0], couple[1]),
                            BAD);
                }
            }
            SpanDepParser x = new SpanDepParser(n, single);
            for (int[] arc : Cases.arcs(n)) {
                due("bestWithout " + arcOf(n, arc), x.bestWithout(arc[0], arc[1]),
                        n == 1 ? NONE : 0);
            }
        });
    }

    // Promise 10

    private static void treesWithFromNoneToAll() {
        everyKind((n, single) -> {
            dueAllAllowed(new SpanDepParser(n, single), n, single);
            for (SpanDepParser x : Cases.withoutFlatTree(n, single)) {
                for (int[] arc : Cases.arcs(n)) {
                    due("treesWith " + arcOf(n, arc) + " of none", x.treesWith(arc[0], arc[1]), 0);
                }
            }
            for (int[] heads : FlatTrees.of(n, single != 0)) {
                SpanDepParser x = Cases.onlyTree(single, heads);
                for (int[] arc : Cases.arcs(n)) {
                    due("treesWith " + arcOf(n, arc) + " of one tree", x.treesWith(arc[0], arc[1]),
                            Cases.has(heads, arc) ? 1 : 0);
                }
            }
        });
    }

    private static void treesWithNoArc() {
        everyKind((n, single) -> {
            for (List<int[]> row : Cases.noArcs(n)) {
                SpanDepParser x = new SpanDepParser(n, single);
                for (int[] couple : row) {
                    due("treesWith " + arcOf(n, couple), x.treesWith(couple[0], couple[1]), BAD);
                }
            }
            SpanDepParser x = new SpanDepParser(n, single);
            for (int[] arc : Cases.arcs(n)) {
                due("treesWith " + arcOf(n, arc) + " is a number",
                        x.treesWith(arc[0], arc[1]) >= 1, true);
            }
            for (SpanDepParser none : Cases.withoutFlatTree(n, single)) {
                due("treesWith(1, 1) of none", none.treesWith(1, 1), BAD);
                due("treesWith(0, n + 1) of none", none.treesWith(0, n + 1), BAD);
                due("treesWith(0, 0) of none", none.treesWith(0, 0), BAD);
            }
        });
    }

    // Promise 11

    private static void clearMakesScoresZero() {
        everyKind((n, single) -> {
            for (int score : new int[] {-1000, -1, 1, 1000}) {
                SpanDepParser x = new SpanDepParser(n, single);
                Cases.scoreAll(x, n, score);
                x.clear();
                dueZeroScores(x, n, single);
            }
            for (int[] arc : Cases.arcs(n)) {
                SpanDepParser x = new SpanDepParser(n, single);
                x.score(arc[0], arc[1], 9);
                x.ban(arc[0], arc[1], true);
                x.clear();
                due("bestWith " + arcOf(n, arc) + ", once banned", x.bestWith(arc[0], arc[1]), 0);
            }
        });
    }

    private static void clearAllowsArcs() {
        everyKind((n, single) -> {
            for (SpanDepParser x : Cases.withoutFlatTree(n, single)) {
                x.clear();
                dueAllAllowed(x, n, single);
            }
            for (int[] arc : Cases.arcs(n)) {
                SpanDepParser x = new SpanDepParser(n, single);
                x.ban(arc[0], arc[1], true);
                x.clear();
                dueAllAllowed(x, n, single);
                due("ban " + arcOf(n, arc) + " after clear", x.ban(arc[0], arc[1], true), true);
                due("treesWith it", x.treesWith(arc[0], arc[1]), 0);
            }
        });
    }

    private static void clearCountsFromNoneToAll() {
        everyKind((n, single) -> {
            List<int[]> arcs = Cases.arcs(n);
            for (int count = 0; count <= arcs.size(); count++) {
                SpanDepParser x = new SpanDepParser(n, single);
                for (int[] arc : arcs.subList(0, count)) {
                    x.ban(arc[0], arc[1], true);
                }
                due("clear() of " + count, x.clear(), count);
                due("clear() again", x.clear(), 0);
            }
            for (int[] arc : arcs) {
                SpanDepParser x = new SpanDepParser(n, single);
                x.score(arc[0], arc[1], 9);
                due("clear() of a score alone", x.clear(), 0);
                x.ban(arc[0], arc[1], true);
                x.ban(arc[0], arc[1], true);
                due("clear() of an arc banned twice", x.clear(), 1);
                x.ban(arc[0], arc[1], true);
                x.ban(arc[0], arc[1], false);
                due("clear() of a ban taken back", x.clear(), 0);
                x.ban(arc[1], arc[1], true);
                x.ban(arc[0], n + 1, true);
                due("clear() of refused bans", x.clear(), 0);
            }
        });
    }

    // Promise 12

    private static void headBadFirst() {
        everyKind((n, single) -> {
            for (SpanDepParser x : Cases.withoutFlatTree(n, single)) {
                for (int d : Cases.numbers()) {
                    due("head(" + d + ") of none of " + n, x.head(d),
                            1 <= d && d <= n ? NONE : BAD);
                }
            }
        });
    }

    private static void bestWithBadFirst() {
        everyKind((n, single) -> {
            for (List<int[]> row : Cases.noArcs(n)) {
                for (SpanDepParser x : Cases.withoutFlatTree(n, single)) {
                    for (int[] couple : row) {
                        due("bestWith " + arcOf(n, couple), x.bestWith(couple[0], couple[1]), BAD);
                    }
                }
            }
        });
    }

    private static void bestWithoutBadFirst() {
        everyKind((n, single) -> {
            for (List<int[]> row : Cases.noArcs(n)) {
                for (SpanDepParser x : Cases.withoutFlatTree(n, single)) {
                    for (int[] couple : row) {
                        due("bestWithout " + arcOf(n, couple), x.bestWithout(couple[0], couple[1]),
                                BAD);
                    }
                }
            }
        });
    }

    private static void refusedScoreChangesNothing() {
        everyKind((n, single) -> {
            for (List<int[]> row : Cases.noArcs(n)) {
                dueUnchanged(n, single, x -> {
                    for (int[] couple : row) {
                        x.score(couple[0], couple[1], 1000);
                    }
                });
            }
            for (int score : BAD_SCORES) {
                dueUnchanged(n, single, x -> Cases.scoreAll(x, n, score));
            }
        });
    }

    private static void refusedBanChangesNothing() {
        everyKind((n, single) -> {
            for (List<int[]> row : Cases.noArcs(n)) {
                for (boolean banned : new boolean[] {true, false}) {
                    dueUnchanged(n, single, x -> {
                        for (int[] couple : row) {
                            x.ban(couple[0], couple[1], banned);
                        }
                    });
                }
            }
        });
    }

    private static void refusedQuestionChangesNothing() {
        everyKind((n, single) -> {
            for (List<int[]> row : Cases.noArcs(n)) {
                dueUnchanged(n, single, x -> {
                    for (int[] couple : row) {
                        x.bestWith(couple[0], couple[1]);
                        x.bestWithout(couple[0], couple[1]);
                        x.treesWith(couple[0], couple[1]);
                    }
                });
            }
            dueUnchanged(n, single, x -> {
                for (int d : Cases.numbers()) {
                    if (d < 1 || d > n) {
                        x.head(d);
                    }
                }
            });
        });
    }

    /** Every arc has a score of its own, some are banned, and some flat trees are left. */
    private static SpanDepParser busy(int n, int single) {
        SpanDepParser x = new SpanDepParser(n, single);
        for (int[] arc : Cases.arcs(n)) {
            x.score(arc[0], arc[1], 37 * arc[0] - 53 * arc[1] + 11 * arc[0] * arc[1]);
            x.ban(arc[0], arc[1], (arc[0] + arc[1]) % 3 == 2);
        }
        return x;
    }

    /**
     * An object that was given the refused calls answers as one that was not. What is banned hides
     * its score, so they are compared again when all is allowed; and clear, which tells the bans of
     * arcs that no flat tree has, forgets the rest, so it is asked of objects of its own.
     */
    private static void dueUnchanged(int n, int single, Consumer<SpanDepParser> refusedCalls) {
        SpanDepParser x = busy(n, single);
        SpanDepParser untouched = busy(n, single);
        refusedCalls.accept(x);
        dueSameAnswers(x, untouched, n);
        for (int[] arc : Cases.arcs(n)) {
            x.ban(arc[0], arc[1], false);
            untouched.ban(arc[0], arc[1], false);
        }
        dueSameAnswers(x, untouched, n);

        SpanDepParser cleared = busy(n, single);
        refusedCalls.accept(cleared);
        due("clear()", cleared.clear(), busy(n, single).clear());
    }

    private static void dueSameAnswers(SpanDepParser x, SpanDepParser untouched, int n) {
        due("best()", x.best(), untouched.best());
        due("bestTrees()", x.bestTrees(), untouched.bestTrees());
        due("trees()", x.trees(), untouched.trees());
        for (int d = 1; d <= n; d++) {
            due("head(" + d + ")", x.head(d), untouched.head(d));
        }
        for (int[] arc : Cases.arcs(n)) {
            due("bestWith " + arcOf(n, arc), x.bestWith(arc[0], arc[1]),
                    untouched.bestWith(arc[0], arc[1]));
            due("bestWithout " + arcOf(n, arc), x.bestWithout(arc[0], arc[1]),
                    untouched.bestWithout(arc[0], arc[1]));
            due("treesWith " + arcOf(n, arc), x.treesWith(arc[0], arc[1]),
                    untouched.treesWith(arc[0], arc[1]));
        }
    }
}
