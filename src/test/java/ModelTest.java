import java.util.ArrayList;
import java.util.Arrays;
import java.util.List;

/**
 * Long runs of calls on the class and on a second writing of the document, which holds
 * nothing but the distances and finds each answer anew. The runs are always the same ones.
 */
public final class ModelTest {
    private static final int RUNS = 300;
    private static final int CALLS = 512;
    private static final int BAD_ARG = -1000;
    private static final int FULL = -1001;
    private static final int NONE = -1002;
    private static final String[] NAMES = {"point", "drop", "set", "move", "smooth", "points", "distance",
        "index", "edges", "edge", "treeDistance", "together", "agrees", "agreeing", "treelike", "span", "weight"};
    private static final int[] STRANGE = {Integer.MIN_VALUE, Integer.MIN_VALUE + 1, Integer.MAX_VALUE, -1, -2,
        -60, -61, 7, 8, 31, 32, 33, 59, 60, 61, 62, 63, 64, 127, 128, 129, 255, 1 << 16, 1 << 30};

    private static final class Split {
        final int set;
        final List<Integer> near = new ArrayList<>();
        final List<Integer> far = new ArrayList<>();

        Split(int set, int points) {
            this.set = set;
            for (int i = 0; i < points; i++) {
                boolean inSet = (set / (1 << i)) % 2 == 1;
                (inSet ? near : far).add(i);
            }
        }

        boolean parts(int i, int j) {
            return near.contains(i) && far.contains(j) || near.contains(j) && far.contains(i);
        }

        boolean agreesWith(Split other) {
            for (List<Integer> mine : List.of(near, far)) {
                for (List<Integer> its : List.of(other.near, other.far)) {
                    if (mine.stream().noneMatch(its::contains)) {
                        return true;
                    }
                }
            }
            return false;
        }
    }

    private static final class Model {
        private int n = 0;
        private int[][] d = new int[0][0];

        int point(int far) {
            if (far < 0 || far > 60) {
                return BAD_ARG;
            }
            if (n == 7) {
                return FULL;
            }
            int[][] grown = new int[n + 1][n + 1];
            for (int i = 0; i < n; i++) {
                System.arraycopy(d[i], 0, grown[i], 0, n);
                grown[i][n] = far;
                grown[n][i] = far;
            }
            d = grown;
            return n++;
        }

        int drop() {
            if (n == 0) {
                return NONE;
            }
            n--;
            int[][] shrunk = new int[n][];
            for (int i = 0; i < n; i++) {
                shrunk[i] = Arrays.copyOf(d[i], n);
            }
            d = shrunk;
            return n;
        }

        int set(int i, int j, int to) {
            if (no(i) || no(j) || i == j || to < 0 || to > 60) {
                return BAD_ARG;
            }
            int was = d[i][j];
            d[i][j] = to;
            d[j][i] = to;
            return was;
        }

        int move(int set, int by) {
            if (by < -60 || by > 60) {
                return BAD_ARG;
            }
            int changed = 0;
            for (int i = 0; i < n; i++) {
                for (int j = 0; j < n; j++) {
                    boolean meant = (set & (1 << i)) != 0 && (set & (1 << j)) == 0;
                    int to = d[i][j] + by;
                    if (meant && to >= 0 && to <= 60 && by != 0) {
                        d[i][j] = to;
                        d[j][i] = to;
                        changed++;
                    }
                }
            }
            return changed;
        }

        int smooth() {
            List<Split> all = edgeList();
            int[][] halved = new int[n][n];
            int changed = 0;
            for (int i = 0; i < n; i++) {
                for (int j = 0; j < n; j++) {
                    halved[i][j] = Math.min(60, Math.floorDiv(sumOfParting(all, i, j), 2));
                    changed += i < j && halved[i][j] != d[i][j] ? 1 : 0;
                }
            }
            d = halved;
            return changed;
        }

        int distance(int i, int j) {
            return no(i) || no(j) ? BAD_ARG : d[i][j];
        }

        int index(int set) {
            for (Split split : splits()) {
                if (split.set == set) {
                    return indexOf(split);
                }
            }
            return BAD_ARG;
        }

        int edge(int which) {
            List<Split> all = edgeList();
            return which < 0 || which >= all.size() ? NONE : all.get(which).set;
        }

        int treeDistance(int i, int j) {
            if (no(i) || no(j)) {
                return BAD_ARG;
            }
            return sumOfParting(edgeList(), i, j);
        }

        int together(int i, int j) {
            if (no(i) || no(j)) {
                return BAD_ARG;
            }
            return edgeList().stream().noneMatch(e -> e.parts(i, j)) ? 1 : 0;
        }

        int agrees(int set) {
            for (Split split : splits()) {
                if (split.set == set) {
                    return edgeList().stream().allMatch(split::agreesWith) ? 1 : 0;
                }
            }
            return BAD_ARG;
        }

        int agreeing() {
            List<Split> all = edgeList();
            return (int) splits().stream().filter(s -> all.stream().allMatch(s::agreesWith)).count();
        }

        int treelike() {
            for (int i = 0; i < n; i++) {
                for (int j = 0; j < n; j++) {
                    for (int k = 0; k < n; k++) {
                        for (int l = 0; l < n; l++) {
                            int[] sums = {d[i][j] + d[k][l], d[i][k] + d[j][l], d[i][l] + d[j][k]};
                            Arrays.sort(sums);
                            if (sums[1] != sums[2]) {
                                return 0;
                            }
                        }
                    }
                }
            }
            return 1;
        }

        int span() {
            List<Split> all = edgeList();
            int greatest = 0;
            for (int i = 0; i < n; i++) {
                for (int j = 0; j < n; j++) {
                    greatest = Math.max(greatest, sumOfParting(all, i, j));
                }
            }
            return greatest;
        }

        int weight() {
            return edgeList().stream().mapToInt(this::indexOf).sum();
        }

        private boolean no(int i) {
            return i < 0 || i >= n;
        }

        private List<Split> splits() {
            List<Split> all = new ArrayList<>();
            for (int set = 0; set < 1 << n; set++) {
                Split split = new Split(set, n);
                if (split.near.contains(0) && !split.far.isEmpty()) {
                    all.add(split);
                }
            }
            return all;
        }

        private List<Split> edgeList() {
            List<Split> all = splits();
            all.removeIf(s -> indexOf(s) <= 0);
            return all;
        }

        private int sumOfParting(List<Split> all, int i, int j) {
            return all.stream().filter(e -> e.parts(i, j)).mapToInt(this::indexOf).sum();
        }

        private int indexOf(Split split) {
            int least = Integer.MAX_VALUE;
            for (int a : split.near) {
                for (int a2 : split.near) {
                    for (int b : split.far) {
                        for (int b2 : split.far) {
                            least = Math.min(least, d[a][b] + d[a2][b2] - d[a][a2] - d[b][b2]);
                        }
                    }
                }
            }
            return least;
        }
    }

    private static long seed;

    /** The next number of a fixed row, from 0 to bound - 1. */
    private static int next(int bound) {
        seed = seed * 6364136223846793005L + 1442695040888963407L;
        return (int) ((seed >>> 33) % bound);
    }

    private static int strangeOr(int plain) {
        return next(12) == 0 ? STRANGE[next(STRANGE.length)] : plain;
    }

    private static int[] argumentsOf(String name, int run) {
        int near = run % 3 == 0 ? 61 : 1 + next(12);
        int i = strangeOr(next(7));
        int j = strangeOr(next(7));
        int set = strangeOr(next(128));
        switch (name) {
            case "point":
                return new int[] {strangeOr(run % 3 == 1 ? 0 : next(near))};
            case "set":
                return new int[] {i, j, strangeOr(next(near))};
            case "move":
                return new int[] {set, strangeOr(next(4) == 0 ? -next(near) : next(near))};
            case "edge":
                return new int[] {strangeOr(next(13) - 1)};
            case "index":
            case "agrees":
                return new int[] {set | (next(8) == 0 ? 0 : 1)};
            case "distance":
            case "treeDistance":
            case "together":
                return new int[] {i, j};
            default:
                return new int[0];
        }
    }

    /** Points come more often than they go, and a tree is seldom smoothed or broken by set. */
    private static String nextName(int run) {
        int luck = next(40);
        if (luck < 8) {
            return "move";
        }
        if (luck < 12) {
            return "point";
        }
        if (luck == 12) {
            return "drop";
        }
        if (luck == 13) {
            return "smooth";
        }
        if (luck == 14 || luck == 15 && run % 3 == 0) {
            return "set";
        }
        return NAMES[5 + next(NAMES.length - 5)];
    }

    private static int ask(SplitTree x, String name, int[] a) {
        switch (name) {
            case "point": return x.point(a[0]);
            case "drop": return x.drop();
            case "set": return x.set(a[0], a[1], a[2]);
            case "move": return x.move(a[0], a[1]);
            case "smooth": return x.smooth();
            case "points": return x.points();
            case "distance": return x.distance(a[0], a[1]);
            case "index": return x.index(a[0]);
            case "edges": return x.edges();
            case "edge": return x.edge(a[0]);
            case "treeDistance": return x.treeDistance(a[0], a[1]);
            case "together": return x.together(a[0], a[1]);
            case "agrees": return x.agrees(a[0]);
            case "agreeing": return x.agreeing();
            case "treelike": return x.treelike();
            case "span": return x.span();
            default: return x.weight();
        }
    }

    private static int due(Model m, String name, int[] a) {
        switch (name) {
            case "point": return m.point(a[0]);
            case "drop": return m.drop();
            case "set": return m.set(a[0], a[1], a[2]);
            case "move": return m.move(a[0], a[1]);
            case "smooth": return m.smooth();
            case "points": return m.n;
            case "distance": return m.distance(a[0], a[1]);
            case "index": return m.index(a[0]);
            case "edges": return m.edgeList().size();
            case "edge": return m.edge(a[0]);
            case "treeDistance": return m.treeDistance(a[0], a[1]);
            case "together": return m.together(a[0], a[1]);
            case "agrees": return m.agrees(a[0]);
            case "agreeing": return m.agreeing();
            case "treelike": return m.treelike();
            case "span": return m.span();
            default: return m.weight();
        }
    }

    /** True if the whole run was answered as due; it stops at the first wrong answer. */
    private static boolean holds(int run) {
        seed = run;
        SplitTree x = new SplitTree();
        Model m = new Model();
        for (int call = 1; call <= CALLS; call++) {
            String name = nextName(run);
            int[] arguments = argumentsOf(name, run);
            int want = due(m, name, arguments);
            String got;
            try {
                got = String.valueOf(ask(x, name, arguments));
            } catch (RuntimeException thrown) {
                got = thrown.toString();
            }
            if (!got.equals(String.valueOf(want))) {
                System.out.println("run " + run + ", call " + call + ": " + name + Arrays.toString(arguments)
                    + " answered " + got + ", due is " + want);
                return false;
            }
        }
        return true;
    }

    public static void main(String[] args) {
        int wrong = 0;
        for (int run = 1; run <= RUNS && wrong < 10; run++) {
            wrong += holds(run) ? 0 : 1;
        }
        System.out.println(wrong == 0 ? "all answers are as due" : "there are wrong answers");
        if (wrong != 0) {
            System.exit(1);
        }
    }
}
