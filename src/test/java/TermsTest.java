import java.util.Arrays;
import java.util.List;

/** The sentences of "What it is" and "Terms" that name a boundary, each with a test of its own. */
public final class TermsTest {
    private static final Answers ANSWERS = new Answers();

    public static void main(String[] args) {
        ANSWERS.sentence("an object is used for at most 512 calls after it has been made",
                TermsTest::lastPromisedCall);
        ANSWERS.sentence("h from 0 to n, d from 1 to n and h != d, is an ARC",
                TermsTest::whatAnArcIs);
        ANSWERS.sentence("a score (an int from -1000 to 1000)", TermsTest::scoresOfArcs);
        ANSWERS.sentence("so that no arc (h(d), d) is banned", TermsTest::noBannedArc);
        ANSWERS.sentence("from every word one comes to 0 .. again and again",
                TermsTest::everyWordComesToRoot);
        ANSWERS.sentence("covers the numbers strictly between h and d",
                TermsTest::endsAreNotCovered);
        ANSWERS.sentence("every number .. covers comes to h(d) .. again and again",
                TermsTest::coveredNumbersComeToHead);
        ANSWERS.sentence("so no two arcs cross, also none over the root", TermsTest::noArcsCross);
        ANSWERS.sentence("the sum of the scores of its n arcs", TermsTest::scoreIsTheSum);
        ANSWERS.sentence("the smaller head at the lowest word where the heads differ comes first",
                TermsTest::lowestWordDecides);
        ANSWERS.end();
    }

    private static void due(String call, long got, long want) {
        ANSWERS.due(call, got, want);
    }

    private static void due(String call, boolean got, boolean want) {
        ANSWERS.due(call, got, want);
    }

    private static void dueOnlyTree(int single, long want, int... heads) {
        SpanDepParser x = Cases.onlyTree(single, heads);
        due("trees() with only " + Arrays.toString(heads), x.trees(), want);
    }

    private static void lastPromisedCall() {
        SpanDepParser x = new SpanDepParser(5, 0);
        for (int call = 1; call <= 508; call++) {
            x.score(call % 5, 5, call);
        }
        due("call 509, ban(3, 5, true)", x.ban(3, 5, true), true);
        due("call 510, best()", x.best(), 507);
        due("call 511, head(5)", x.head(5), 2);
        due("call 512, clear()", x.clear(), 1);

        // Each call is once the last one, behind 511 of all kinds.
        due("score(2, 1, 1000)", used511Calls().score(2, 1, 1000), true);
        due("score(2, 1, 1001)", used511Calls().score(2, 1, 1001), false);
        due("ban(2, 1, false)", used511Calls().ban(2, 1, false), true);
        due("ban(6, 1, false)", used511Calls().ban(6, 1, false), false);
        due("best()", used511Calls().best(), 55);
        due("head(5)", used511Calls().head(5), 3);
        // With (3, 5), word 4 has 3 or 5 as head, and nine trees of the words 1 to 3 lack (2, 1).
        due("bestTrees()", used511Calls().bestTrees(), 18);
        // With (2, 1), word 1 has no words, so the 55 trees of the four others are gone.
        due("trees()", used511Calls().trees(), 273 - 55);
        due("bestWith(0, 1)", used511Calls().bestWith(0, 1), 55);
        due("bestWithout(3, 5)", used511Calls().bestWithout(3, 5), 0);
        due("treesWith(2, 1)", used511Calls().treesWith(2, 1), 0);
        due("clear()", used511Calls().clear(), 1);
    }

    /** Calls that answer and are refused, and then: (3, 5) has the score 55 and (2, 1) is banned. */
    private static SpanDepParser used511Calls() {
        SpanDepParser x = new SpanDepParser(5, 0);
        for (int round = 1; round <= 46; round++) {
            x.clear();
            x.score(3, 5, round + 9);
            x.score(3, 5, 1001);
            x.ban(2, 1, true);
            x.ban(0, 0, true);
            x.best();
            x.head(round % 7);
            x.bestTrees();
            x.trees();
            x.bestWith(round % 7, 2);
            x.bestWithout(3, round % 7);
        }
        for (int call = 507; call <= 511; call++) {
            x.treesWith(2, call - 506);
        }
        return x;
    }

    private static void whatAnArcIs() {
        for (int n = 1; n <= 5; n++) {
            int arcs = 0;
            for (int h : Cases.numbers()) {
                SpanDepParser x = new SpanDepParser(n, 0);
                int inRow = 0;
                for (int d : Cases.numbers()) {
                    String arc = "of " + n + " (" + h + ", " + d + ")";
                    boolean is = Cases.isArc(n, h, d);
                    due("score " + arc, x.score(h, d, 1), is);
                    due("bestWith " + arc, x.bestWith(h, d) != Cases.BAD, is);
                    due("bestWithout " + arc, x.bestWithout(h, d) != Cases.BAD, is);
                    due("treesWith " + arc, x.treesWith(h, d) != Cases.BAD, is);
                    due("ban " + arc, x.ban(h, d, true), is);
                    inRow += is ? 1 : 0;
                }
                due("bans in row " + h + " of " + n, x.clear(), inRow);
                arcs += inRow;
            }
            due("arcs of " + n, arcs, n * n);
        }
    }

    private static void scoresOfArcs() {
        for (int n = 1; n <= 5; n++) {
            for (int[] arc : Cases.arcs(n)) {
                SpanDepParser x = new SpanDepParser(n, 0);
                for (int score : new int[] {-1000, -999, -1, 0, 1, 999, 1000}) {
                    x.score(arc[0], arc[1], score);
                    due("bestWith an arc of score " + score, x.bestWith(arc[0], arc[1]), score);
                }
            }
        }
    }

    private static void noBannedArc() {
        for (int n = 1; n <= 5; n++) {
            List<int[]> flat = FlatTrees.of(n, false);
            for (int[] arc : Cases.arcs(n)) {
                SpanDepParser x = new SpanDepParser(n, 0);
                x.ban(arc[0], arc[1], true);
                long left = flat.stream().filter(heads -> !Cases.has(heads, arc)).count();
                due("trees() without (" + arc[0] + ", " + arc[1] + ") of " + n, x.trees(), left);
            }
        }
    }

    private static void everyWordComesToRoot() {
        dueOnlyTree(0, 1, 0);
        dueOnlyTree(0, 1, 0, 1, 2, 3, 4);
        dueOnlyTree(0, 1, 2, 3, 4, 5, 0);
        dueOnlyTree(0, 1, 5, 1, 2, 3, 0);
        dueOnlyTree(0, 0, 2, 1);
        dueOnlyTree(0, 0, 2, 1, 0);
        dueOnlyTree(0, 0, 0, 3, 2);
        dueOnlyTree(0, 0, 3, 1, 2);
        dueOnlyTree(0, 0, 2, 3, 4, 5, 1);
        dueOnlyTree(0, 0, 5, 1, 2, 3, 4);
        dueOnlyTree(0, 0, 0, 1, 2, 5, 4);
    }

    private static void endsAreNotCovered() {
        // Neighbours cover nothing, so nothing is asked of the numbers at the ends.
        dueOnlyTree(0, 1, 0, 1, 0);
        dueOnlyTree(0, 1, 2, 0, 0);
        dueOnlyTree(0, 1, 0, 3, 0);
        // Just one number between, from either side: 2 must come to the head.
        dueOnlyTree(0, 1, 0, 1, 1);
        dueOnlyTree(0, 0, 0, 0, 1);
        dueOnlyTree(0, 1, 3, 3, 0);
        dueOnlyTree(0, 0, 3, 0, 0);
        // All the numbers between, the first and the last of them too.
        dueOnlyTree(0, 1, 0, 1, 1, 1, 1);
        dueOnlyTree(0, 0, 0, 0, 1, 1, 1);
        dueOnlyTree(0, 0, 0, 1, 1, 0, 1);
        dueOnlyTree(0, 1, 5, 5, 5, 5, 0);
        dueOnlyTree(0, 0, 5, 0, 5, 5, 0);
        dueOnlyTree(0, 0, 5, 5, 5, 0, 0);
    }

    private static void coveredNumbersComeToHead() {
        // They come to it over one word, two or three, not only as its own words.
        dueOnlyTree(0, 1, 0, 1, 2, 1);
        dueOnlyTree(0, 1, 0, 1, 2, 3, 1);
        dueOnlyTree(0, 1, 0, 3, 4, 1, 1);
        dueOnlyTree(0, 1, 5, 1, 2, 3, 0);
        // Coming to the dependent is coming to the head.
        dueOnlyTree(0, 1, 0, 3, 1);
        // Coming to a word outside, or to the root past the head, is not.
        dueOnlyTree(0, 0, 0, 4, 1, 0);
        dueOnlyTree(0, 0, 2, 0, 1);
        dueOnlyTree(0, 0, 0, 1, 5, 2, 1);
    }

    private static void noArcsCross() {
        dueOnlyTree(0, 0, 0, 0, 1, 2);
        dueOnlyTree(0, 0, 3, 4, 0, 0);
        dueOnlyTree(0, 0, 2, 0, 1);
        dueOnlyTree(0, 0, 3, 0, 2);
        for (int n = 1; n <= 5; n++) {
            for (int single = 0; single <= 1; single++) {
                everyHeads(n, single);
            }
        }
    }

    /** Each way to give heads by itself; an object is used for sixteen, so for 512 calls at most. */
    private static void everyHeads(int n, int single) {
        SpanDepParser x = new SpanDepParser(n, single);
        int used = 0;
        for (int[] heads : FlatTrees.allHeads(n)) {
            if (used == 16) {
                x = new SpanDepParser(n, single);
                used = 0;
            }
            used++;
            Cases.allowOnly(x, heads);
            due("trees() with only " + Arrays.toString(heads) + " single " + single,
                    x.trees(), FlatTrees.isFlatTree(heads, single != 0) ? 1 : 0);
        }
    }

    private static void scoreIsTheSum() {
        for (int n = 1; n <= 5; n++) {
            for (int[] heads : FlatTrees.of(n, false)) {
                SpanDepParser x = Cases.onlyTree(0, heads);
                int sum = 0;
                for (int d = 1; d <= n; d++) {
                    int score = d % 2 == 0 ? -(1 << d) : 1 << 2 * d - 1;
                    x.score(heads[d - 1], d, score);
                    sum += score;
                }
                due("best() of the only tree", x.best(), sum);
                Cases.scoreAll(x, n, -1000);
                due("best() of the least scores", x.best(), -1000 * n);
                Cases.scoreAll(x, n, 1000);
                due("best() of the greatest scores", x.best(), 1000 * n);
            }
        }
    }

    private static void lowestWordDecides() {
        // The heads differ at one word alone: at the first, in the middle, at the last.
        dueFirst(0, new int[] {2, 0, 0}, new int[] {0, 0, 0}, new int[] {0, 0, 0});
        dueFirst(0, new int[] {0, 3, 0}, new int[] {0, 1, 0}, new int[] {0, 1, 0});
        dueFirst(0, new int[] {0, 0, 2}, new int[] {0, 0, 0}, new int[] {0, 0, 0});
        // A higher word speaks for the other tree.
        dueFirst(1, new int[] {2, 0}, new int[] {0, 1}, new int[] {0, 1});
        dueFirst(1, new int[] {2, 0, 2}, new int[] {0, 3, 1}, new int[] {0, 3, 1});
        dueFirst(1, new int[] {5, 5, 5, 5, 0}, new int[] {0, 5, 5, 5, 1}, new int[] {0, 5, 5, 5, 1});
        for (int n = 2; n <= 4; n++) {
            for (int single = 0; single <= 1; single++) {
                everyTwoTrees(single, FlatTrees.of(n, single != 0));
            }
        }
    }

    private static void everyTwoTrees(int single, List<int[]> flat) {
        for (int[] one : flat) {
            for (int[] other : flat) {
                dueFirst(single, one, other, firstOfBoth(flat, one, other));
            }
        }
    }

    private static void dueFirst(int single, int[] one, int[] other, int[] first) {
        SpanDepParser x = new SpanDepParser(one.length, single);
        Cases.allowOnlyBoth(x, one, other);
        for (int d = 1; d <= first.length; d++) {
            due("head(" + d + ") with only " + Arrays.toString(one) + Arrays.toString(other)
                    + " single " + single, x.head(d), first[d - 1]);
        }
    }

    private static int[] firstOfBoth(List<int[]> flat, int[] one, int[] other) {
        int[] first = one;
        for (int[] heads : flat) {
            boolean left = true;
            for (int d = 0; d < heads.length; d++) {
                left &= heads[d] == one[d] || heads[d] == other[d];
            }
            if (left && comesBefore(heads, first)) {
                first = heads;
            }
        }
        return first;
    }

    private static boolean comesBefore(int[] one, int[] other) {
        for (int d = 0; d < one.length; d++) {
            if (one[d] != other[d]) {
                return one[d] < other[d];
            }
        }
        return false;
    }
}
