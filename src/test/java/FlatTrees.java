import java.util.ArrayList;
import java.util.List;

/**
 * A second reading of what a flat tree is, beside the program's: a tree is what the root reaches,
 * and it is flat if no two of its arcs cross. In an array of heads, cell d - 1 is for word d.
 */
final class FlatTrees {
    private FlatTrees() {
    }

    static List<int[]> of(int n, boolean single) {
        List<int[]> found = new ArrayList<>();
        for (int[] heads : allHeads(n)) {
            if (isFlatTree(heads, single)) {
                found.add(heads);
            }
        }
        return found;
    }

    /** Every way to give each word a head, also those that make no tree. */
    static List<int[]> allHeads(int n) {
        List<int[]> all = new ArrayList<>();
        grow(new int[n], 1, all);
        return all;
    }

    static boolean isFlatTree(int[] heads, boolean single) {
        return reachesAll(heads) && !crosses(heads) && (!single || rootWords(heads) == 1);
    }

    static boolean reachesAll(int[] heads) {
        int n = heads.length;
        boolean[] reached = new boolean[n + 1];
        reached[0] = true;
        int count = 0;
        for (int round = 0; round < n; round++) {
            for (int d = 1; d <= n; d++) {
                if (!reached[d] && reached[heads[d - 1]]) {
                    reached[d] = true;
                    count++;
                }
            }
        }
        return count == n;
    }

    static boolean crosses(int[] heads) {
        int n = heads.length;
        for (int a = 1; a <= n; a++) {
            int left = Math.min(a, heads[a - 1]);
            int right = Math.max(a, heads[a - 1]);
            for (int b = 1; b <= n; b++) {
                int low = Math.min(b, heads[b - 1]);
                int high = Math.max(b, heads[b - 1]);
                if (left < low && low < right && right < high) {
                    return true;
                }
            }
        }
        return false;
    }

    static int rootWords(int[] heads) {
        int count = 0;
        for (int h : heads) {
            count += h == 0 ? 1 : 0;
        }
        return count;
    }

    private static void grow(int[] heads, int d, List<int[]> all) {
        int n = heads.length;
        if (d > n) {
            all.add(heads.clone());
            return;
        }
        for (int h = 0; h <= n; h++) {
            heads[d - 1] = h;
            grow(heads, d + 1, all);
        }
    }
}
