/**
 * Best dependency trees over a short sentence, without crossing arcs.
 *
 * With at most five words there are at most 273 flat trees, and which heads make one depends on
 * the constructor's arguments alone. So they are listed once, in the order in which trees are
 * compared, and every question is one walk over that list.
 */
public final class SpanDepParser {
    public static final int BAD = -2000000;
    public static final int NONE = -1000000;

    private static final int MOST_WORDS = 5;
    private static final int MOST_SCORE = 1000;
    /** The numbers 0 to MOST_WORDS: the cells in a row of a table with one column for each. */
    private static final int ROW = MOST_WORDS + 1;
    private static final int ARC_CELLS = ROW * ROW;
    /** The flat trees over five words when several words may have the head 0. */
    private static final int MOST_TREES = 273;
    private static final int TREE_CELLS = MOST_TREES * ROW;

    private final int n;
    private final boolean oneRootWord;

    private final int[] scores = new int[ARC_CELLS];
    private final boolean[] bans = new boolean[ARC_CELLS];

    /** The heads under trial while the flat trees are listed; cell 0 stays 0. */
    private final int[] heads = new int[ROW];
    private final byte[] listedHeads = new byte[TREE_CELLS];
    private int listed = 0;

    public SpanDepParser(int words, int single) {
        n = words < 1 ? 1 : words > MOST_WORDS ? MOST_WORDS : words;
        oneRootWord = single != 0;
        listFlatTrees();
    }

    public boolean score(int h, int d, int score) {
        if (!isArc(h, d) || score < -MOST_SCORE || score > MOST_SCORE) {
            return false;
        }
        scores[arcCell(h, d)] = score;
        return true;
    }

    public boolean ban(int h, int d, boolean banned) {
        if (!isArc(h, d)) {
            return false;
        }
        bans[arcCell(h, d)] = banned;
        return true;
    }

    public int best() {
        int greatest = NONE;
        for (int tree = 0; tree < listed; tree++) {
            if (isAllowed(tree)) {
                int sum = scoreOf(tree);
                greatest = sum > greatest ? sum : greatest;
            }
        }
        return greatest;
    }

    public int head(int d) {
        if (!isWord(d)) {
            return BAD;
        }
        int greatest = best();
        for (int tree = 0; tree < listed; tree++) {
            if (isAllowed(tree) && scoreOf(tree) == greatest) {
                return headIn(tree, d);
            }
        }
        return NONE;
    }

    public int bestTrees() {
        int greatest = best();
        int count = 0;
        for (int tree = 0; tree < listed; tree++) {
            if (isAllowed(tree) && scoreOf(tree) == greatest) {
                count++;
            }
        }
        return count;
    }

    public int trees() {
        int count = 0;
        for (int tree = 0; tree < listed; tree++) {
            if (isAllowed(tree)) {
                count++;
            }
        }
        return count;
    }

    public int bestWith(int h, int d) {
        return isArc(h, d) ? bestWhere(h, d, true) : BAD;
    }

    public int bestWithout(int h, int d) {
        return isArc(h, d) ? bestWhere(h, d, false) : BAD;
    }

    public int treesWith(int h, int d) {
        if (!isArc(h, d)) {
            return BAD;
        }
        int count = 0;
        for (int tree = 0; tree < listed; tree++) {
            if (isAllowed(tree) && headIn(tree, d) == h) {
                count++;
            }
        }
        return count;
    }

    public int clear() {
        int count = 0;
        for (int cell = 0; cell < ARC_CELLS; cell++) {
            if (bans[cell]) {
                count++;
            }
            bans[cell] = false;
            scores[cell] = 0;
        }
        return count;
    }

    private boolean isWord(int d) {
        return d >= 1 && d <= n;
    }

    private boolean isArc(int h, int d) {
        return h >= 0 && h <= n && isWord(d) && h != d;
    }

    private static int arcCell(int h, int d) {
        return h * ROW + d;
    }

    /** The greatest score of the flat trees that have the arc, or of those that have it not. */
    private int bestWhere(int h, int d, boolean has) {
        int greatest = NONE;
        for (int tree = 0; tree < listed; tree++) {
            if (isAllowed(tree) && (headIn(tree, d) == h) == has) {
                int sum = scoreOf(tree);
                greatest = sum > greatest ? sum : greatest;
            }
        }
        return greatest;
    }

    private int headIn(int tree, int d) {
        return listedHeads[tree * ROW + d];
    }

    private boolean isAllowed(int tree) {
        for (int d = 1; d <= n; d++) {
            int h = headIn(tree, d);
            if (bans[arcCell(h, d)]) {
                return false;
            }
        }
        return true;
    }

    private int scoreOf(int tree) {
        int sum = 0;
        for (int d = 1; d <= n; d++) {
            int h = headIn(tree, d);
            sum += scores[arcCell(h, d)];
        }
        return sum;
    }

    private void listFlatTrees() {
        int trials = 1;
        for (int d = 1; d <= n; d++) {
            trials *= n + 1;
        }
        for (int trial = 0; trial < trials; trial++) {
            setHeads(trial);
            if (isTree() && isFlat() && hasRootWordsAsAsked()) {
                listHeads();
            }
        }
    }

    /** Word 1 takes the highest digit, so that counting up goes through the trees in order. */
    private void setHeads(int trial) {
        int rest = trial;
        for (int d = n; d >= 1; d--) {
            heads[d] = rest % (n + 1);
            rest /= n + 1;
        }
    }

    private void listHeads() {
        if (listed >= MOST_TREES) {
            return;
        }
        for (int d = 1; d <= n; d++) {
            listedHeads[listed * ROW + d] = (byte) heads[d];
        }
        listed++;
    }

    /** A word that is its own head never comes to 0, so this refuses it too. */
    private boolean isTree() {
        for (int d = 1; d <= n; d++) {
            if (!comesTo(d, 0)) {
                return false;
            }
        }
        return true;
    }

    private boolean isFlat() {
        for (int d = 1; d <= n; d++) {
            int h = heads[d];
            int left = h < d ? h : d;
            int right = h < d ? d : h;
            for (int covered = left + 1; covered < right; covered++) {
                if (!comesTo(covered, h)) {
                    return false;
                }
            }
        }
        return true;
    }

    private boolean hasRootWordsAsAsked() {
        int rootWords = 0;
        for (int d = 1; d <= n; d++) {
            if (heads[d] == 0) {
                rootWords++;
            }
        }
        return !oneRootWord || rootWords == 1;
    }

    /** No way up is longer than n steps unless it goes in a circle. */
    private boolean comesTo(int word, int goal) {
        int at = word;
        for (int step = 0; step < n && at != goal; step++) {
            at = heads[at];
        }
        return at == goal;
    }
}
