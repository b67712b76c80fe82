/** Distances between points, and the tree that they make. */
public final class SplitTree {
    public static final int BAD_ARG = -1000;
    public static final int FULL = -1001;
    public static final int NONE = -1002;

    private static final int MAX_POINTS = 7;
    private static final int MAX_DISTANCE = 60;
    private static final int CELLS = 49;
    private static final int SETS = 128;

    // Both d(i, j) and d(j, i) are held, so that no reader has to put a pair in order.
    private final int[] cells = new int[CELLS];

    // The index of each split, by its set. It is a function of the distances alone:
    // every call that changes them ends with measureSplits().
    private final int[] indices = new int[SETS];

    private int count;

    public SplitTree() {
        count = 0;
    }

    public int point(int d) {
        if (!isDistance(d)) {
            return BAD_ARG;
        }
        if (count >= MAX_POINTS) {
            return FULL;
        }
        int added = count;
        for (int i = 0; i < added; i++) {
            put(i, added, d);
        }
        count = added + 1;
        measureSplits();
        return added;
    }

    public int drop() {
        if (count == 0) {
            return NONE;
        }
        count--;
        measureSplits();
        return count;
    }

    public int set(int i, int j, int d) {
        if (!arePoints(i, j) || i == j || !isDistance(d)) {
            return BAD_ARG;
        }
        int was = between(i, j);
        put(i, j, d);
        measureSplits();
        return was;
    }

    public int move(int set, int d) {
        if (d < -MAX_DISTANCE || d > MAX_DISTANCE) {
            return BAD_ARG;
        }
        int changed = 0;
        for (int i = 0; i < count; i++) {
            for (int j = 0; j < i; j++) {
                int moved = between(i, j) + d;
                if (parts(set, i, j) && change(i, j, moved)) {
                    changed++;
                }
            }
        }
        measureSplits();
        return changed;
    }

    public int smooth() {
        int changed = 0;
        // The indices are measured again only after the loop, so that all pairs
        // are halved from the same tree.
        for (int i = 0; i < count; i++) {
            for (int j = 0; j < i; j++) {
                int half = sumOfParting(i, j) / 2;
                int capped = half > MAX_DISTANCE ? MAX_DISTANCE : half;
                if (change(i, j, capped)) {
                    changed++;
                }
            }
        }
        measureSplits();
        return changed;
    }

    public int points() {
        return count;
    }

    public int distance(int i, int j) {
        if (!arePoints(i, j)) {
            return BAD_ARG;
        }
        return between(i, j);
    }

    public int index(int set) {
        if (!isSplit(set)) {
            return BAD_ARG;
        }
        return indices[set];
    }

    public int edges() {
        int all = allPoints();
        int found = 0;
        for (int set = 1; set < all; set += 2) {
            if (indices[set] > 0) {
                found++;
            }
        }
        return found;
    }

    public int edge(int n) {
        int all = allPoints();
        int before = 0;
        for (int set = 1; set < all; set += 2) {
            if (indices[set] > 0) {
                if (before == n) {
                    return set;
                }
                before++;
            }
        }
        return NONE;
    }

    public int treeDistance(int i, int j) {
        if (!arePoints(i, j)) {
            return BAD_ARG;
        }
        return sumOfParting(i, j);
    }

    public int together(int i, int j) {
        if (!arePoints(i, j)) {
            return BAD_ARG;
        }
        // Every edge has an index above 0, so a sum of 0 means that no edge parts them.
        return sumOfParting(i, j) == 0 ? 1 : 0;
    }

    public int agrees(int set) {
        if (!isSplit(set)) {
            return BAD_ARG;
        }
        return agreesWithEdges(set) ? 1 : 0;
    }

    public int agreeing() {
        int all = allPoints();
        int found = 0;
        for (int set = 1; set < all; set += 2) {
            if (agreesWithEdges(set)) {
                found++;
            }
        }
        return found;
    }

    public int treelike() {
        // The three sums are the same ones in whatever order the four points stand.
        for (int i = 0; i < count; i++) {
            for (int j = 0; j <= i; j++) {
                if (!isTreelikeFrom(i, j)) {
                    return 0;
                }
            }
        }
        return 1;
    }

    public int span() {
        int greatest = 0;
        for (int i = 0; i < count; i++) {
            for (int j = 0; j < i; j++) {
                int sum = sumOfParting(i, j);
                if (sum > greatest) {
                    greatest = sum;
                }
            }
        }
        return greatest;
    }

    public int weight() {
        int all = allPoints();
        int sum = 0;
        for (int set = 1; set < all; set += 2) {
            if (indices[set] > 0) {
                sum += indices[set];
            }
        }
        return sum;
    }

    private static boolean isDistance(int d) {
        return d >= 0 && d <= MAX_DISTANCE;
    }

    private boolean arePoints(int i, int j) {
        return i >= 0 && i < count && j >= 0 && j < count;
    }

    /** The splits are the odd sets from 1 on that are less than this one. */
    private int allPoints() {
        return (1 << count) - 1;
    }

    private boolean isSplit(int set) {
        return set > 0 && set < allPoints() && has(set, 0);
    }

    private static boolean has(int set, int i) {
        return ((set >> i) & 1) == 1;
    }

    private static boolean parts(int set, int i, int j) {
        return has(set, i) != has(set, j);
    }

    private int between(int i, int j) {
        return cells[i * MAX_POINTS + j];
    }

    private void put(int i, int j, int d) {
        cells[i * MAX_POINTS + j] = d;
        cells[j * MAX_POINTS + i] = d;
    }

    /** Leaves d(i, j) as it was if d is no distance; tells whether it became another one. */
    private boolean change(int i, int j, int d) {
        if (!isDistance(d) || between(i, j) == d) {
            return false;
        }
        put(i, j, d);
        return true;
    }

    private void measureSplits() {
        int all = allPoints();
        for (int set = 1; set < all; set += 2) {
            indices[set] = leastOfSplit(set);
        }
    }

    private int leastOfSplit(int set) {
        // With a = a2 and b = b2 the sum is 2 d(a, b), so no index is above this.
        int least = 2 * MAX_DISTANCE;
        for (int a = 0; a < count; a++) {
            for (int a2 = 0; a2 <= a; a2++) {
                if (has(set, a) && has(set, a2)) {
                    int found = leastOfPair(set, a, a2);
                    least = found < least ? found : least;
                }
            }
        }
        return least;
    }

    private int leastOfPair(int set, int a, int a2) {
        int least = 2 * MAX_DISTANCE;
        // Both orders of b and b2 are looked at: they cross to a and a2 differently.
        for (int b = 0; b < count; b++) {
            for (int b2 = 0; b2 < count; b2++) {
                if (!has(set, b) && !has(set, b2)) {
                    int found = between(a, b) + between(a2, b2) - between(a, a2) - between(b, b2);
                    least = found < least ? found : least;
                }
            }
        }
        return least;
    }

    private int sumOfParting(int i, int j) {
        int all = allPoints();
        int sum = 0;
        for (int set = 1; set < all; set += 2) {
            if (indices[set] > 0 && parts(set, i, j)) {
                sum += indices[set];
            }
        }
        return sum;
    }

    private boolean agreesWithEdges(int set) {
        int all = allPoints();
        for (int other = 1; other < all; other += 2) {
            if (indices[other] > 0 && !areAgreed(set, other)) {
                return false;
            }
        }
        return true;
    }

    private boolean areAgreed(int set, int other) {
        // The fourth of the sets, what is in both, always has point 0.
        return (set & ~other) == 0 || (other & ~set) == 0 || (set | other) == allPoints();
    }

    private boolean isTreelikeFrom(int i, int j) {
        for (int k = 0; k <= j; k++) {
            for (int l = 0; l <= k; l++) {
                int x = between(i, j) + between(k, l);
                int y = between(i, k) + between(j, l);
                int z = between(i, l) + between(j, k);
                if (!areGreatestTwoEqual(x, y, z)) {
                    return false;
                }
            }
        }
        return true;
    }

    private static boolean areGreatestTwoEqual(int x, int y, int z) {
        return (x == y && z <= x) || (x == z && y <= x) || (y == z && x <= y);
    }
}
