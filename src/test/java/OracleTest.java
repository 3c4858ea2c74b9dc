import java.util.ArrayList;
import java.util.List;

/** Long runs of calls, each answer compared with a second reading of the document. */
public final class OracleTest {
    private static final int BAD = Cases.BAD;
    private static final int NONE = Cases.NONE;
    private static final int CALLS = 512;
    private static final int RUNS = 60;
    private static final Answers ANSWERS = new Answers();

    private final int n;
    private final List<int[]> flatTrees;
    private final int[][] scores = new int[6][6];
    private final boolean[][] bans = new boolean[6][6];
    private final SpanDepParser parser;
    private final String name;
    private long seed;

    private OracleTest(int n, int single, int run) {
        this.n = n;
        parser = new SpanDepParser(n, single);
        name = "n " + n + " single " + single + " run " + run + ": ";
        seed = 1000003L * run + 31L * n + single;
        flatTrees = FlatTrees.of(n, single != 0);
    }

    public static void main(String[] args) {
        for (int n = 1; n <= 5; n++) {
            for (int single = 0; single <= 1; single++) {
                for (int run = 0; run < RUNS; run++) {
                    OracleTest test = new OracleTest(n, single, run);
                    for (int call = 0; call < CALLS; call++) {
                        test.oneCall(run, call);
                    }
                }
            }
        }
        ANSWERS.end();
    }

    /** A fixed sequence, so that a wrong answer comes again in every run of the test. */
    private int pick(int bound) {
        seed = seed * 6364136223846793005L + 1442695040888963407L;
        return (int) ((seed >>> 33) % bound);
    }

    private int pickScore(int run) {
        if (pick(20) == 0) {
            int[] edges = {-1001, -1000, 1000, 1001, Integer.MIN_VALUE, Integer.MAX_VALUE};
            return edges[pick(edges.length)];
        }
        // Every other run has few different scores, so that many trees tie.
        return run % 2 == 0 ? pick(3) - 1 : pick(2001) - 1000;
    }

    private int pickNumber() {
        if (pick(40) == 0) {
            int[] edges = {-1, -6, 6, 7, 36, Integer.MIN_VALUE, Integer.MAX_VALUE};
            return edges[pick(edges.length)];
        }
        return pick(n + 2);
    }

    private boolean isArc(int h, int d) {
        return Cases.isArc(n, h, d);
    }

    private void oneCall(int run, int call) {
        int h = pickNumber();
        int d = pickNumber();
        String at = name + "call " + call + " ";
        String arc = "(" + h + ", " + d + ")";
        switch (pick(12)) {
            case 0: case 1: case 2:
                oneScore(at, h, d, pickScore(run));
                break;
            case 3: case 4:
                oneBan(at, h, d, pick(3) == 0);
                break;
            case 5:
                ANSWERS.due(at + "best()", parser.best(), best(0, 0, true, false));
                break;
            case 6:
                ANSWERS.due(at + "head(" + d + ")", parser.head(d), head(d));
                break;
            case 7:
                ANSWERS.due(at + "bestTrees()", parser.bestTrees(), bestTrees());
                break;
            case 8:
                ANSWERS.due(at + "trees()", parser.trees(), treesWith(0, 0, true));
                break;
            case 9:
                ANSWERS.due(at + "bestWith" + arc, parser.bestWith(h, d),
                        isArc(h, d) ? best(h, d, false, true) : BAD);
                break;
            case 10:
                ANSWERS.due(at + "bestWithout" + arc, parser.bestWithout(h, d),
                        isArc(h, d) ? best(h, d, false, false) : BAD);
                break;
            default:
                if (pick(6) == 0) {
                    ANSWERS.due(at + "clear()", parser.clear(), clear());
                } else {
                    ANSWERS.due(at + "treesWith" + arc, parser.treesWith(h, d),
                            isArc(h, d) ? treesWith(h, d, false) : BAD);
                }
        }
    }

    private void oneScore(String at, int h, int d, int score) {
        boolean taken = isArc(h, d) && -1000 <= score && score <= 1000;
        if (taken) {
            scores[h][d] = score;
        }
        ANSWERS.due(at + "score(" + h + ", " + d + ", " + score + ")",
                parser.score(h, d, score), taken);
    }

    private void oneBan(String at, int h, int d, boolean banned) {
        boolean taken = isArc(h, d);
        if (taken) {
            bans[h][d] = banned;
        }
        ANSWERS.due(at + "ban(" + h + ", " + d + ", " + banned + ")",
                parser.ban(h, d, banned), taken);
    }

    private boolean allowed(int[] heads) {
        for (int d = 1; d <= n; d++) {
            if (bans[heads[d - 1]][d]) {
                return false;
            }
        }
        return true;
    }

    private int sum(int[] heads) {
        int sum = 0;
        for (int d = 1; d <= n; d++) {
            sum += scores[heads[d - 1]][d];
        }
        return sum;
    }

    private int best(int h, int d, boolean any, boolean has) {
        int best = NONE;
        for (int[] heads : flatTrees) {
            if (allowed(heads) && (any || (heads[d - 1] == h) == has)) {
                best = Math.max(best, sum(heads));
            }
        }
        return best;
    }

    private List<int[]> bestOnes() {
        int best = best(0, 0, true, false);
        List<int[]> ones = new ArrayList<>();
        for (int[] heads : flatTrees) {
            if (allowed(heads) && sum(heads) == best) {
                ones.add(heads);
            }
        }
        return ones;
    }

    private int bestTrees() {
        return bestOnes().size();
    }

    /** The first is looked for word by word, so that it does not rest on the list's order. */
    private int head(int d) {
        if (d < 1 || d > n) {
            return BAD;
        }
        List<int[]> ones = bestOnes();
        if (ones.isEmpty()) {
            return NONE;
        }
        for (int word = 1; word <= n; word++) {
            int at = word - 1;
            int least = ones.stream().mapToInt(heads -> heads[at]).min().getAsInt();
            ones.removeIf(heads -> heads[at] != least);
        }
        return ones.get(0)[d - 1];
    }

    private int treesWith(int h, int d, boolean any) {
        int count = 0;
        for (int[] heads : flatTrees) {
            count += allowed(heads) && (any || heads[d - 1] == h) ? 1 : 0;
        }
        return count;
    }

    private int clear() {
        int count = 0;
        for (int h = 0; h <= n; h++) {
            for (int d = 1; d <= n; d++) {
                count += bans[h][d] ? 1 : 0;
                bans[h][d] = false;
                scores[h][d] = 0;
            }
        }
        return count;
    }
}
