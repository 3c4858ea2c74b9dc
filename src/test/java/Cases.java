import java.util.ArrayList;
import java.util.Arrays;
import java.util.List;

/** Numbers, arcs and states that several tests use. In an array of heads, cell d - 1 is for word d. */
final class Cases {
    static final int BAD = -2000000;
    static final int NONE = -1000000;
    static final int LEAST = Integer.MIN_VALUE;
    static final int MOST = Integer.MAX_VALUE;

    /** Far outside, among them numbers that would turn into near ones if bits were lost. */
    static final int[] FAR = {
        LEAST, LEAST + 1, LEAST + 3, -65535, -255, -100, -36, 36, 100, 257, 65537, 16777217,
        MOST - 1, MOST,
    };

    private Cases() {
    }

    /** From far below 0 over all the numbers near 0 to 5 to far above. */
    static int[] numbers() {
        int[] near = new int[20];
        for (int i = 0; i < near.length; i++) {
            near[i] = i - 7;
        }
        int[] all = Arrays.copyOf(near, near.length + FAR.length);
        System.arraycopy(FAR, 0, all, near.length, FAR.length);
        return all;
    }

    static boolean isArc(int n, int h, int d) {
        return 0 <= h && h <= n && 1 <= d && d <= n && h != d;
    }

    static List<int[]> arcs(int n) {
        List<int[]> arcs = new ArrayList<>();
        for (int h = 0; h <= n; h++) {
            for (int d = 1; d <= n; d++) {
                if (h != d) {
                    arcs.add(new int[] {h, d});
                }
            }
        }
        return arcs;
    }

    /** Lists of couples that are no arc; each is short enough for one object's 512 calls. */
    static List<List<int[]>> noArcs(int n) {
        List<List<int[]>> rows = new ArrayList<>();
        for (int h : numbers()) {
            List<int[]> row = new ArrayList<>();
            for (int d : numbers()) {
                if (!isArc(n, h, d)) {
                    row.add(new int[] {h, d});
                }
            }
            rows.add(row);
        }
        return rows;
    }

    static boolean has(int[] heads, int[] arc) {
        return heads[arc[1] - 1] == arc[0];
    }

    static void allowOnly(SpanDepParser x, int... heads) {
        allowOnlyBoth(x, heads, heads);
    }

    /** Other trees may be left too, that have some arcs from the one and some from the other. */
    static void allowOnlyBoth(SpanDepParser x, int[] one, int[] other) {
        for (int[] arc : arcs(one.length)) {
            x.ban(arc[0], arc[1], !has(one, arc) && !has(other, arc));
        }
    }

    static void scoreAll(SpanDepParser x, int n, int score) {
        for (int[] arc : arcs(n)) {
            x.score(arc[0], arc[1], score);
        }
    }

    static SpanDepParser onlyTree(int single, int[] heads) {
        SpanDepParser x = new SpanDepParser(heads.length, single);
        allowOnly(x, heads);
        return x;
    }

    /** Objects with n words that have no flat tree, each for another reason. */
    static List<SpanDepParser> withoutFlatTree(int n, int single) {
        List<SpanDepParser> objects = new ArrayList<>();
        SpanDepParser all = new SpanDepParser(n, single);
        SpanDepParser root = new SpanDepParser(n, single);
        for (int[] arc : arcs(n)) {
            all.ban(arc[0], arc[1], true);
            root.ban(arc[0], arc[1], arc[0] == 0);
        }
        objects.add(all);
        objects.add(root);
        for (int word = 1; word <= n; word++) {
            SpanDepParser headless = new SpanDepParser(n, single);
            for (int h = 0; h <= n; h++) {
                headless.ban(h, word, true);
            }
            objects.add(headless);
        }
        if (n >= 2) {
            int[] circle = new int[n];
            circle[0] = 2;
            circle[1] = 1;
            objects.add(onlyTree(single, circle));
        }
        if (n >= 3) {
            int[] crossing = new int[n];
            crossing[0] = 2;
            crossing[2] = 1;
            objects.add(onlyTree(single, crossing));
        }
        if (n >= 2 && single != 0) {
            objects.add(onlyTree(single, new int[n]));
        }
        return objects;
    }
}
