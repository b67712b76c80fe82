import java.lang.reflect.Field;
import java.util.function.IntSupplier;
import java.util.function.Supplier;
import java.util.function.ToIntFunction;

/**
 * A test of its own for each sentence of the document that names a boundary case. The lists at
 * the end give the sentence beside its test; no object here is called more than 512 times.
 */
public final class BoundaryTest {
    private static final int BAD_ARG = -1000;
    private static final int FULL = -1001;
    private static final int NONE = -1002;
    private static final int MIN = Integer.MIN_VALUE;
    private static final int MAX = Integer.MAX_VALUE;
    private static final int[] NO_DISTANCES = {MIN, MIN + 1, -120, -61, -60, -1, 61, 62, 120, 256, 1 << 16, MAX};
    private static final int[] NO_STEPS = {MIN, MIN + 1, -120, -62, -61, 61, 62, 120, 256, 1 << 16, MAX};
    private static final int[] EXTREMES = {MIN, MIN + 1, -128, -61, -60, -1, 0, 1, 6, 7, 31, 32, 33, 60, 61, 63, 64,
        126, 127, 128, 129, 1 << 30, MAX - 1, MAX};
    private static final int[] FAR_SETS = {MIN, MIN + 1, MIN + 3, -(1 << 16) + 1, (1 << 8) + 1, (1 << 16) + 1, 1 << 30,
        (1 << 30) + 1, MAX - 1, MAX};

    private static String sentence = "";
    private static int wrong = 0;

    private static void say(String what) {
        wrong++;
        System.out.println("\"" + sentence + "\": " + what);
    }

    private static void due(String what, IntSupplier call, int want) {
        try {
            int answer = call.getAsInt();
            if (answer != want) {
                say(what + " answered " + answer + ", due is " + want);
            }
        } catch (RuntimeException thrown) {
            say(what + " threw " + thrown + ", due is " + want);
        }
    }

    /** For calls whose answer is looked at elsewhere: here it must only be no refusal. */
    private static void dueAnswered(String what, IntSupplier call) {
        try {
            if (call.getAsInt() == BAD_ARG) {
                say(what + " was refused");
            }
        } catch (RuntimeException thrown) {
            say(what + " threw " + thrown);
        }
    }

    private static void test(String words, Runnable body) {
        sentence = words;
        // One sentence that is broken badly must not hide the others.
        try {
            body.run();
        } catch (RuntimeException thrown) {
            say("the test ended with " + thrown);
        }
    }

    /** An object whose n points are all at distance d from each other. */
    private static SplitTree even(int n, int d) {
        SplitTree x = new SplitTree();
        for (int i = 0; i < n; i++) {
            x.point(d);
        }
        return x;
    }

    /** The first n points of a tree of seven, whose eleven edges are as many as a tree of seven can have. */
    private static SplitTree tree(int n) {
        SplitTree x = even(7, 0);
        for (int i = 0; i < 7; i++) {
            x.move(1 << i, i + 1);
        }
        x.move(3, 2);
        x.move(7, 3);
        x.move(15, 4);
        x.move(31, 5);
        for (int i = 7; i > n; i--) {
            x.drop();
        }
        return x;
    }

    /** Indices of 1, 0 and -1: index(1) and index(13) are 1, index(3) is -1, all others are 0. */
    private static SplitTree aroundZero() {
        SplitTree x = even(4, 1);
        x.set(0, 1, 2);
        return x;
    }

    /** Numbers that no point bears while there are n points. */
    private static int[] notPoints(int n) {
        return new int[] {MIN, MIN + 1, -32, -7, -1, n, n + 1, 7, 8, 32, 33, 64, 1 << 16, 1 << 30, MAX};
    }

    /** The distances 1-0, 2-0, 2-1, 3-0 and so on, each asked both ways. */
    private static void dueDistances(String what, SplitTree x, int... want) {
        int at = 0;
        int points = 1;
        while (at < want.length) {
            for (int j = 0; j < points; j++) {
                int a = points;
                int b = j;
                int d = want[at++];
                due(what + ", distance(" + a + ", " + b + ")", () -> x.distance(a, b), d);
                due(what + ", distance(" + b + ", " + a + ")", () -> x.distance(b, a), d);
            }
            points++;
        }
        due(what + ", points()", x::points, points);
    }

    /** Everything that can be asked, compared with what an object made by the same calls answers. */
    private static void dueSame(String what, SplitTree x, SplitTree like) {
        due(what + ", points()", x::points, like.points());
        for (int i = 0; i < 7; i++) {
            for (int j = 0; j < 7; j++) {
                int a = i;
                int b = j;
                due(what + ", distance(" + a + ", " + b + ")", () -> x.distance(a, b), like.distance(a, b));
            }
        }
        for (int set = 1; set < 128; set += 2) {
            int split = set;
            due(what + ", index(" + set + ")", () -> x.index(split), like.index(split));
            due(what + ", agrees(" + set + ")", () -> x.agrees(split), like.agrees(split));
        }
        for (int n = 0; n < 12; n++) {
            int number = n;
            due(what + ", edge(" + n + ")", () -> x.edge(number), like.edge(number));
        }
        for (int i = 1; i < 7; i++) {
            int a = i;
            due(what + ", treeDistance(0, " + a + ")", () -> x.treeDistance(0, a), like.treeDistance(0, a));
            due(what + ", together(0, " + a + ")", () -> x.together(0, a), like.together(0, a));
        }
        due(what + ", edges()", x::edges, like.edges());
        due(what + ", agreeing()", x::agreeing, like.agreeing());
        due(what + ", treelike()", x::treelike, like.treelike());
        due(what + ", span()", x::span, like.span());
        due(what + ", weight()", x::weight, like.weight());
    }

    private static void dueAndUnchanged(String what, Supplier<SplitTree> made, ToIntFunction<SplitTree> call,
            int want) {
        SplitTree x = made.get();
        due(what, () -> call.applyAsInt(x), want);
        dueSame("after " + what, x, made.get());
    }

    // What it is

    private static void the512thCall() {
        SplitTree x = new SplitTree();
        for (int call = 1; call <= 509; call++) {
            boolean adds = call % 2 == 1;
            due("call " + call, adds ? () -> x.point(9) : x::drop, 0);
        }
        due("call 510, point(5)", () -> x.point(5), 1);
        due("call 511, move(1, 55)", () -> x.move(1, 55), 1);
        due("call 512, weight()", x::weight, 120);
        SplitTree refusing = even(7, 3);
        for (int call = 8; call <= 511; call++) {
            due("call " + call + ", point(3)", () -> refusing.point(3), FULL);
        }
        due("call 512, drop()", refusing::drop, 6);
    }

    // Terms

    private static void upToSevenPoints() {
        SplitTree x = new SplitTree();
        for (int i = 0; i < 7; i++) {
            int number = i;
            due("point(" + i + ")", () -> x.point(number), number);
            due("points()", x::points, number + 1);
        }
        due("point(0), the eighth", () -> x.point(0), FULL);
        due("points()", x::points, 7);
        due("distance(0, 6)", () -> x.distance(0, 6), 6);
        due("distance(0, 7)", () -> x.distance(0, 7), BAD_ARG);
        dueAnswered("index(63), the last point alone", () -> x.index(63));
    }

    private static void distancesAreTheSameBothWays() {
        SplitTree x = even(3, 4);
        x.set(0, 1, 7);
        dueDistances("set(0, 1, 7)", x, 7, 4, 4);
        x.set(1, 0, 8);
        dueDistances("set(1, 0, 8)", x, 8, 4, 4);
        x.move(4, 2);
        dueDistances("move(4, 2)", x, 8, 6, 6);
        x.move(3, 3);
        dueDistances("move(3, 3)", x, 8, 9, 9);
        x.set(2, 0, 30);
        x.smooth();
        dueDistances("smooth()", x, 8, 17, 9);
        due("treeDistance(0, 2)", () -> x.treeDistance(0, 2), 34);
        due("treeDistance(2, 0)", () -> x.treeDistance(2, 0), 34);
    }

    private static void distancesFrom0To60() {
        SplitTree x = even(1, 0);
        due("point(0)", () -> x.point(0), 1);
        due("point(60)", () -> x.point(60), 2);
        due("set(0, 1, 60)", () -> x.set(0, 1, 60), 0);
        due("set(0, 2, 0)", () -> x.set(0, 2, 0), 60);
        dueDistances("at the ends", x, 60, 0, 60);
        due("point(-1)", () -> x.point(-1), BAD_ARG);
        due("point(61)", () -> x.point(61), BAD_ARG);
        due("set(0, 1, -1)", () -> x.set(0, 1, -1), BAD_ARG);
        due("set(0, 1, 61)", () -> x.set(0, 1, 61), BAD_ARG);
        due("move(1, 1)", () -> x.move(1, 1), 1);
        due("move(4, -1)", () -> x.move(4, -1), 2);
        due("move(4, -1)", () -> x.move(4, -1), 1);
        dueDistances("moved at the ends", x, 60, 0, 58);
    }

    private static void aPointIsAt0FromItself() {
        SplitTree x = even(7, 60);
        for (int set = 0; set < 128; set += 3) {
            x.move(set, 60 - set);
        }
        x.smooth();
        for (int i = 0; i < 7; i++) {
            int a = i;
            due("distance(" + a + ", " + a + ")", () -> x.distance(a, a), 0);
            due("treeDistance(" + a + ", " + a + ")", () -> x.treeDistance(a, a), 0);
            due("set(" + a + ", " + a + ", 5)", () -> x.set(a, a, 5), BAD_ARG);
            due("distance(" + a + ", " + a + ") after it", () -> x.distance(a, a), 0);
        }
    }

    private static void nothingElseIsAskedOfDistances() {
        SplitTree x = even(3, 0);
        due("set(0, 1, 60), a triangle of 60, 0 and 0", () -> x.set(0, 1, 60), 0);
        dueDistances("a broken triangle", x, 60, 0, 0);
        due("index(1)", () -> x.index(1), 0);
        due("index(3)", () -> x.index(3), -60);
        due("index(5)", () -> x.index(5), 0);
        due("together(0, 1)", () -> x.together(0, 1), 1);
    }

    private static void neitherSideIsEmpty() {
        due("agreeing() of no points", even(0, 0)::agreeing, 0);
        for (int n = 1; n <= 7; n++) {
            SplitTree x = even(n, 0);
            int all = (1 << n) - 1;
            due("index(" + all + ") of " + n + " points", () -> x.index(all), BAD_ARG);
            due("index(0) of " + n + " points", () -> x.index(0), BAD_ARG);
            due("agrees(" + all + ") of " + n + " points", () -> x.agrees(all), BAD_ARG);
            due("agrees(0) of " + n + " points", () -> x.agrees(0), BAD_ARG);
            due("agreeing() of " + n + " points, all their splits", x::agreeing, (1 << (n - 1)) - 1);
        }
    }

    private static void theSideThatHasPoint0() {
        SplitTree x = tree(7);
        for (int set = 0; set < 128; set += 2) {
            int side = set;
            due("index(" + side + ")", () -> x.index(side), BAD_ARG);
            due("agrees(" + side + ")", () -> x.agrees(side), BAD_ARG);
        }
        for (int set = 1; set < 127; set += 2) {
            int side = set;
            dueAnswered("index(" + side + ")", () -> x.index(side));
            dueAnswered("agrees(" + side + ")", () -> x.agrees(side));
        }
    }

    private static void oneSideOfOnePoint() {
        SplitTree two = even(2, 0);
        due("index(1) of two points at 0", () -> two.index(1), 0);
        two.set(0, 1, 60);
        due("index(1) of two points at 60, a = a2 and b = b2", () -> two.index(1), 120);
        SplitTree x = even(3, 10);
        due("index(1), a = a2", () -> x.index(1), 10);
        due("index(3), b = b2", () -> x.index(3), 10);
        SplitTree wide = even(4, 0);
        wide.move(3, 10);
        wide.set(0, 2, 1);
        due("index(3), a = a2 and b = b2 on sides of two", () -> wide.index(3), 2);
        wide.set(0, 1, 30);
        due("index(3), b = b2 on a side of two", () -> wide.index(3), -19);
        wide.set(0, 1, 0);
        wide.set(2, 3, 30);
        due("index(3), a = a2 on a side of two", () -> wide.index(3), -19);
    }

    /** Each of the two ways to pair a, a2 with b, b2 gives the least one once. */
    private static void bothPairingsCount() {
        SplitTree x = even(4, 10);
        x.set(0, 1, 12);
        x.set(0, 2, 7);
        due("index(3) by 0 with 2", () -> x.index(3), -5);
        x.set(0, 2, 10);
        x.set(0, 3, 7);
        due("index(3) by 0 with 3", () -> x.index(3), -5);
    }

    private static void anEdgeIsAbove0() {
        SplitTree x = aroundZero();
        due("index(1)", () -> x.index(1), 1);
        due("index(3)", () -> x.index(3), -1);
        due("index(5)", () -> x.index(5), 0);
        due("index(13)", () -> x.index(13), 1);
        due("edges()", x::edges, 2);
        due("edge(0)", () -> x.edge(0), 1);
        due("edge(1)", () -> x.edge(1), 13);
        due("edge(2)", () -> x.edge(2), NONE);
        due("treeDistance(0, 1)", () -> x.treeDistance(0, 1), 2);
        due("treeDistance(2, 3)", () -> x.treeDistance(2, 3), 0);
        due("together(2, 3)", () -> x.together(2, 3), 1);
        due("together(0, 2)", () -> x.together(0, 2), 0);
        due("agrees(5), which no edge of index 0 or -1 hinders", () -> x.agrees(5), 1);
        due("agreeing()", x::agreeing, 7);
        due("span()", x::span, 2);
        due("weight()", x::weight, 2);
    }

    private static void anEdgePartsItsSides() {
        for (int set = 1; set < 127; set += 2) {
            SplitTree x = even(7, 0);
            x.move(set, 3);
            for (int i = 0; i < 7; i++) {
                for (int j = 0; j < 7; j++) {
                    int a = i;
                    int b = j;
                    int apart = (set >> i) % 2 == (set >> j) % 2 ? 0 : 1;
                    String pair = "(" + a + ", " + b + ") with the edge " + set;
                    due("treeDistance" + pair, () -> x.treeDistance(a, b), 6 * apart);
                    due("together" + pair, () -> x.together(a, b), 1 - apart);
                }
            }
        }
    }

    /** Every edge on its own with every split, of which the four sets are counted here by hand. */
    private static void splitsAgreeIfOneOfFourIsEmpty() {
        for (int set = 1; set < 127; set += 2) {
            SplitTree x = even(7, 0);
            x.move(set, 3);
            int all = 0;
            for (int other = 1; other < 127; other += 2) {
                int split = other;
                int want = hasEmptyMeeting(set, other) ? 1 : 0;
                due("agrees(" + other + ") with the edge " + set, () -> x.agrees(split), want);
                all += want;
            }
            due("agreeing() with the edge " + set, x::agreeing, all);
            int edge = set;
            due("agrees(" + set + "), the edge itself", () -> x.agrees(edge), 1);
        }
    }

    private static boolean hasEmptyMeeting(int set, int other) {
        int[] members = new int[4];
        for (int i = 0; i < 7; i++) {
            members[(set >> i) % 2 * 2 + (other >> i) % 2]++;
        }
        return members[0] == 0 || members[1] == 0 || members[2] == 0 || members[3] == 0;
    }

    private static void treelikeWithPointsNotAllDifferent() {
        for (int far = 0; far < 3; far++) {
            int i = far == 2 ? 1 : 0;
            int j = far == 0 ? 1 : 2;
            SplitTree x = even(3, 5);
            x.set(i, j, 10);
            due("treelike() with d(" + i + ", " + j + ") = 10 = 5 + 5", x::treelike, 1);
            x.set(i, j, 11);
            due("treelike() with d(" + i + ", " + j + ") = 11 > 5 + 5", x::treelike, 0);
            x.set(i, j, 0);
            due("treelike() with d(" + i + ", " + j + ") = 0", x::treelike, 1);
        }
        SplitTree apart = even(3, 0);
        apart.set(0, 1, 1);
        due("treelike() with 1 > 0 + 0", apart::treelike, 0);
    }

    private static void theTwoGreatestAreEqual() {
        SplitTree x = even(4, 6);
        due("treelike() with 12, 12, 12", x::treelike, 1);
        int[][] pairs = {{0, 1, 2, 3}, {0, 2, 1, 3}, {0, 3, 1, 2}};
        for (int[] p : pairs) {
            SplitTree y = even(4, 6);
            y.set(p[0], p[1], 5);
            due("treelike() with 11, 12, 12", y::treelike, 1);
            y.set(p[2], p[3], 5);
            due("treelike() with 10, 12, 12", y::treelike, 1);
            y.set(p[0], p[1], 8);
            due("treelike() with 13, 12, 12", y::treelike, 0);
        }
        for (int[] p : pairs) {
            for (int[] q : pairs) {
                if (p != q) {
                    SplitTree y = even(4, 6);
                    y.set(p[0], p[1], 5);
                    y.set(q[0], q[1], 4);
                    due("treelike() with 11, 10, 12", y::treelike, 0);
                }
            }
        }
    }

    /** An object for each call: what is due is only that there is an answer, and no state that throws after it. */
    private static void noCallThrows() {
        for (int n = 0; n <= 7; n++) {
            int count = n;
            for (int a : EXTREMES) {
                answers(count, "point(" + a + ")", x -> x.point(a));
                answers(count, "index(" + a + ")", x -> x.index(a));
                answers(count, "agrees(" + a + ")", x -> x.agrees(a));
                answers(count, "edge(" + a + ")", x -> x.edge(a));
                for (int b : EXTREMES) {
                    String both = "(" + a + ", " + b + ")";
                    answers(count, "move" + both, x -> x.move(a, b));
                    answers(count, "distance" + both, x -> x.distance(a, b));
                    answers(count, "treeDistance" + both, x -> x.treeDistance(a, b));
                    answers(count, "together" + both, x -> x.together(a, b));
                    answers(count, "set, d = 0" + both, x -> x.set(a, b, 0));
                    answers(count, "set, d = MIN" + both, x -> x.set(a, b, MIN));
                    answers(count, "set, i = 0" + both, x -> x.set(0, a, b));
                    answers(count, "set, j = 0" + both, x -> x.set(a, 0, b));
                }
            }
            answers(count, "drop()", SplitTree::drop);
            answers(count, "smooth()", SplitTree::smooth);
            answers(count, "points()", SplitTree::points);
            answers(count, "edges()", SplitTree::edges);
            answers(count, "agreeing()", SplitTree::agreeing);
            answers(count, "treelike()", SplitTree::treelike);
            answers(count, "span()", SplitTree::span);
            answers(count, "weight()", SplitTree::weight);
        }
    }

    private static void answers(int n, String what, ToIntFunction<SplitTree> call) {
        SplitTree x = even(n, 2);
        try {
            call.applyAsInt(x);
            x.weight();
        } catch (RuntimeException thrown) {
            say(what + " with " + n + " points threw " + thrown);
        }
    }

    private static void aRefusedCallChangesNothing() {
        for (int n = 0; n <= 7; n++) {
            int count = n;
            Supplier<SplitTree> made = () -> tree(count);
            String with = " with " + n + " points";
            for (int d : NO_DISTANCES) {
                dueAndUnchanged("point(" + d + ")" + with, made, x -> x.point(d), BAD_ARG);
                dueAndUnchanged("set(0, 1, " + d + ")" + with, made, x -> x.set(0, 1, d), BAD_ARG);
            }
            for (int d : NO_STEPS) {
                dueAndUnchanged("move(1, " + d + ")" + with, made, x -> x.move(1, d), BAD_ARG);
            }
            for (int i : notPoints(n)) {
                dueAndUnchanged("set(0, " + i + ", 33)" + with, made, x -> x.set(0, i, 33), BAD_ARG);
                dueAndUnchanged("set(" + i + ", 0, 33)" + with, made, x -> x.set(i, 0, 33), BAD_ARG);
                dueAndUnchanged("distance(0, " + i + ")" + with, made, x -> x.distance(0, i), BAD_ARG);
                dueAndUnchanged("treeDistance(" + i + ", 0)" + with, made, x -> x.treeDistance(i, 0), BAD_ARG);
                dueAndUnchanged("together(0, " + i + ")" + with, made, x -> x.together(0, i), BAD_ARG);
            }
            for (int i = 0; i < 7; i++) {
                int a = i;
                dueAndUnchanged("set(" + a + ", " + a + ", 33)" + with, made, x -> x.set(a, a, 33), BAD_ARG);
            }
            dueAndUnchanged("index(0)" + with, made, x -> x.index(0), BAD_ARG);
            dueAndUnchanged("agrees(0)" + with, made, x -> x.agrees(0), BAD_ARG);
            dueAndUnchanged("edge(-1)" + with, made, x -> x.edge(-1), NONE);
            dueAndUnchanged("edge(64)" + with, made, x -> x.edge(64), NONE);
        }
        dueAndUnchanged("point(33) with 7 points", () -> tree(7), x -> x.point(33), FULL);
        dueAndUnchanged("point(61) with 7 points", () -> tree(7), x -> x.point(61), BAD_ARG);
        dueAndUnchanged("drop() with no points", () -> tree(0), SplitTree::drop, NONE);
    }

    /** A refusal leaves no trace that a later call would show. */
    private static void aRefusedCallLeavesNoTrace() {
        SplitTree x = tree(6);
        x.point(61);
        x.set(0, 6, 33);
        x.set(6, 6, 33);
        due("point(4) after refusals", () -> x.point(4), 6);
        x.point(33);
        due("drop() after FULL", x::drop, 6);
        due("point(4) after it", () -> x.point(4), 6);
        SplitTree like = tree(6);
        like.point(4);
        dueSame("after refusals", x, like);
        SplitTree none = new SplitTree();
        none.drop();
        due("point(8) after NONE", () -> none.point(8), 0);
        due("points() after it", none::points, 1);
    }

    /** Asked twice over, the second time beside an object that nothing has been asked yet. */
    private static void askingChangesNothing() {
        SplitTree x = tree(7);
        dueSame("asked once", x, tree(7));
        dueSame("asked again", x, tree(7));
        due("smooth() after it", x::smooth, 0);
    }

    private static void theConstants() {
        due("BAD_ARG", () -> SplitTree.BAD_ARG, -1000);
        due("FULL", () -> SplitTree.FULL, -1001);
        due("NONE", () -> SplitTree.NONE, -1002);
    }

    // Promise 1

    private static void aNewObjectHasNoPoints() {
        SplitTree x = new SplitTree();
        due("points()", x::points, 0);
        due("distance(0, 0)", () -> x.distance(0, 0), BAD_ARG);
        due("treeDistance(0, 0)", () -> x.treeDistance(0, 0), BAD_ARG);
        due("together(0, 0)", () -> x.together(0, 0), BAD_ARG);
        due("set(0, 1, 5)", () -> x.set(0, 1, 5), BAD_ARG);
        due("index(0)", () -> x.index(0), BAD_ARG);
        due("index(1)", () -> x.index(1), BAD_ARG);
        due("agrees(0)", () -> x.agrees(0), BAD_ARG);
        due("agrees(1)", () -> x.agrees(1), BAD_ARG);
        due("edges()", x::edges, 0);
        due("edge(0)", () -> x.edge(0), NONE);
        due("agreeing()", x::agreeing, 0);
        due("treelike()", x::treelike, 1);
        due("span()", x::span, 0);
        due("weight()", x::weight, 0);
        due("smooth()", x::smooth, 0);
        due("move(1, 5)", () -> x.move(1, 5), 0);
        due("drop()", x::drop, NONE);
        even(7, 9);
        due("points() beside an object with seven", x::points, 0);
    }

    // Promise 2

    private static void aPointIsAtDFromAllOthers() {
        SplitTree x = new SplitTree();
        due("point(60), with no others", () -> x.point(60), 0);
        due("distance(0, 0)", () -> x.distance(0, 0), 0);
        for (int i = 1; i < 7; i++) {
            x.point(i == 6 ? 60 : i - 1);
        }
        dueDistances("seven points", x, 0, 1, 1, 2, 2, 2, 3, 3, 3, 3, 4, 4, 4, 4, 4, 60, 60, 60, 60, 60, 60);
    }

    private static void aPointInTheOldOnesPlace() {
        SplitTree x = even(3, 9);
        x.set(0, 2, 30);
        x.set(2, 1, 31);
        x.drop();
        due("point(5)", () -> x.point(5), 2);
        dueDistances("after it", x, 9, 5, 5);
        due("index(3)", () -> x.index(3), 1);
        due("index(1)", () -> x.index(1), 9);
    }

    private static void pointTestsDFirst() {
        for (int d : NO_DISTANCES) {
            due("point(" + d + ") with 0 points", () -> new SplitTree().point(d), BAD_ARG);
            due("point(" + d + ") with 6 points", () -> even(6, 1).point(d), BAD_ARG);
            due("point(" + d + ") with 7 points", () -> even(7, 1).point(d), BAD_ARG);
        }
        due("point(0) with 6 points", () -> even(6, 1).point(0), 6);
        due("point(60) with 6 points", () -> even(6, 1).point(60), 6);
        due("point(0) with 7 points", () -> even(7, 1).point(0), FULL);
        due("point(60) with 7 points", () -> even(7, 1).point(60), FULL);
    }

    // Promise 3

    private static void dropTakesTheLast() {
        SplitTree x = even(2, 4);
        x.point(10);
        x.point(20);
        due("drop()", x::drop, 3);
        dueDistances("after it", x, 4, 10, 10);
        due("distance(0, 3)", () -> x.distance(0, 3), BAD_ARG);
        due("distance(3, 3)", () -> x.distance(3, 3), BAD_ARG);
        due("index(7), now all points", () -> x.index(7), BAD_ARG);
        due("index(3)", () -> x.index(3), 16);
        due("edges()", x::edges, 3);
        due("weight()", x::weight, 24);
        due("agreeing()", x::agreeing, 3);
        due("span()", x::span, 20);
    }

    private static void dropWithNone() {
        due("drop() of a new object", new SplitTree()::drop, NONE);
        SplitTree x = even(7, 2);
        for (int left = 6; left >= 0; left--) {
            due("drop()", x::drop, left);
            due("points()", x::points, left);
        }
        due("drop() of an emptied object", x::drop, NONE);
        due("drop() once more", x::drop, NONE);
        due("points()", x::points, 0);
        due("point(3)", () -> x.point(3), 0);
    }

    // Promise 4

    private static void setAnswersWhatItWas() {
        SplitTree x = even(7, 9);
        due("set(5, 6, 0)", () -> x.set(5, 6, 0), 9);
        due("set(6, 5, 60)", () -> x.set(6, 5, 60), 0);
        due("set(5, 6, 60), as it was", () -> x.set(5, 6, 60), 60);
        due("distance(5, 6)", () -> x.distance(5, 6), 60);
        due("distance(4, 6)", () -> x.distance(4, 6), 9);
        due("distance(4, 5)", () -> x.distance(4, 5), 9);
    }

    private static void setWithNoPoint() {
        for (int n = 0; n <= 7; n++) {
            SplitTree x = even(n, 4);
            for (int i : notPoints(n)) {
                due("set(0, " + i + ", 1) of " + n, () -> x.set(0, i, 1), BAD_ARG);
                due("set(" + i + ", 0, 1) of " + n, () -> x.set(i, 0, 1), BAD_ARG);
                due("set(" + i + ", " + i + ", 1) of " + n, () -> x.set(i, i, 1), BAD_ARG);
            }
            if (n >= 2) {
                int last = n - 1;
                due("set(0, " + last + ", 1) of " + n, () -> x.set(0, last, 1), 4);
                due("set(" + last + ", 0, 2) of " + n, () -> x.set(last, 0, 2), 1);
            }
        }
    }

    private static void setWithEqualPoints() {
        for (int n = 1; n <= 7; n++) {
            SplitTree x = even(n, 4);
            for (int i = 0; i < n; i++) {
                int a = i;
                due("set(" + a + ", " + a + ", 0) of " + n, () -> x.set(a, a, 0), BAD_ARG);
                due("set(" + a + ", " + a + ", 60) of " + n, () -> x.set(a, a, 60), BAD_ARG);
                due("distance(" + a + ", " + a + ") of " + n, () -> x.distance(a, a), 0);
            }
        }
    }

    private static void setOutside0To60() {
        SplitTree x = even(2, 4);
        for (int d : NO_DISTANCES) {
            due("set(0, 1, " + d + ")", () -> x.set(0, 1, d), BAD_ARG);
            due("set(1, 0, " + d + ")", () -> x.set(1, 0, d), BAD_ARG);
        }
        due("set(0, 1, 0)", () -> x.set(0, 1, 0), 4);
        due("set(0, 1, 60)", () -> x.set(0, 1, 60), 0);
        due("distance(0, 1)", () -> x.distance(0, 1), 60);
    }

    // Promise 5

    private static void moveLooksAtNoOtherBits() {
        int[] beyond = {8, 16, 64, 128, 1 << 16, 1 << 30, MIN, MIN + 8, -8};
        for (int high : beyond) {
            SplitTree x = even(3, 10);
            due("move(" + high + " + 2, 4)", () -> x.move(high + 2, 4), 2);
            dueDistances("after it", x, 14, 10, 14);
            due("move(" + high + ", 4), no point of the set", () -> x.move(high, 4), 0);
            due("move(" + high + " + 7, 4), all points", () -> x.move(high + 7, 4), 0);
            dueDistances("after these", x, 14, 10, 14);
        }
        SplitTree x = even(7, 10);
        due("move(-1, 4) of seven", () -> x.move(-1, 4), 0);
        due("move(-2, 4) of seven", () -> x.move(-2, 4), 6);
        due("distance(0, 6)", () -> x.distance(0, 6), 14);
        due("distance(1, 6)", () -> x.distance(1, 6), 10);
    }

    /** The bit of a point that was dropped is a bit for no point again. */
    private static void moveLooksAtNoDroppedPoint() {
        SplitTree x = even(4, 10);
        x.drop();
        due("move(8, 4)", () -> x.move(8, 4), 0);
        due("move(1, 4)", () -> x.move(1, 4), 2);
        due("point(10)", () -> x.point(10), 3);
        dueDistances("after it", x, 14, 14, 10, 10, 10, 10);
    }

    private static void moveWithAnEmptySide() {
        for (int n = 0; n <= 7; n++) {
            SplitTree x = even(n, 10);
            int all = (1 << n) - 1;
            due("move(0, 5) of " + n, () -> x.move(0, 5), 0);
            due("move(" + all + ", 5) of " + n, () -> x.move(all, 5), 0);
            due("move(1, 5) of " + n, () -> x.move(1, 5), n == 0 ? 0 : n - 1);
        }
    }

    private static void moveStaysFrom0To60() {
        SplitTree x = even(5, 30);
        x.set(0, 1, 54);
        x.set(0, 2, 55);
        x.set(0, 3, 60);
        x.set(0, 4, 0);
        due("move(1, 6), to 60, over it twice, and to 6", () -> x.move(1, 6), 2);
        dueDistances("after it", x, 60, 55, 30, 60, 30, 30, 6, 30, 30, 30);
        x.set(0, 2, 5);
        x.set(0, 3, 0);
        due("move(30, -6), to 0, under it twice, and to 54", () -> x.move(30, -6), 2);
        dueDistances("after it", x, 54, 5, 30, 0, 30, 30, 0, 30, 30, 30);
        SplitTree y = even(2, 0);
        due("move(1, 60) from 0", () -> y.move(1, 60), 1);
        due("distance(0, 1)", () -> y.distance(0, 1), 60);
        due("move(1, 60) from 60", () -> y.move(1, 60), 0);
        due("move(1, 1) from 60", () -> y.move(1, 1), 0);
        due("distance(0, 1)", () -> y.distance(0, 1), 60);
        due("move(1, -60) from 60", () -> y.move(1, -60), 1);
        due("distance(0, 1)", () -> y.distance(0, 1), 0);
        due("move(1, -60) from 0", () -> y.move(1, -60), 0);
        due("move(1, -1) from 0", () -> y.move(1, -1), 0);
        due("distance(0, 1)", () -> y.distance(0, 1), 0);
    }

    private static void moveOutsideMinus60To60() {
        for (int d : NO_STEPS) {
            due("move(1, " + d + ")", () -> even(3, 30).move(1, d), BAD_ARG);
            due("move(0, " + d + ") with an empty set", () -> even(3, 30).move(0, d), BAD_ARG);
            due("move(1, " + d + ") with no points", () -> new SplitTree().move(1, d), BAD_ARG);
        }
        due("move(1, 60) with no points", () -> new SplitTree().move(1, 60), 0);
        due("move(1, -60) with no points", () -> new SplitTree().move(1, -60), 0);
        due("move(1, 60) at 0", () -> even(3, 0).move(1, 60), 2);
        due("move(1, -60) at 60", () -> even(3, 60).move(1, -60), 2);
    }

    private static void moveCountsThePairsChanged() {
        SplitTree x = even(7, 30);
        due("move(7, 0), which changes none", () -> x.move(7, 0), 0);
        due("move(7, 1)", () -> x.move(7, 1), 12);
        due("move(120, 1), the other side", () -> x.move(120, 1), 12);
        due("move(1, 1)", () -> x.move(1, 1), 6);
        x.set(0, 6, 60);
        due("move(1, 1) with one at 60", () -> x.move(1, 1), 5);
        due("move(1, 0)", () -> x.move(1, 0), 0);
        due("distance(0, 6)", () -> x.distance(0, 6), 60);
        due("distance(0, 5)", () -> x.distance(0, 5), 34);
        due("distance(0, 1)", () -> x.distance(0, 1), 32);
    }

    // Promise 6

    private static void smoothRoundsDown() {
        SplitTree x = aroundZero();
        due("smooth() with tree distances 2, 1 and 0", x::smooth, 6);
        dueDistances("after it", x, 1, 0, 0, 0, 0, 0);
        SplitTree y = even(3, 3);
        y.set(0, 1, 4);
        y.point(2);
        due("smooth() with tree distances 6, 5, 3 and 2", y::smooth, 6);
        dueDistances("after it", y, 3, 2, 2, 1, 1, 1);
    }

    /** What is asked after it is answered from the new distances. */
    private static void smoothMakesNewDistances() {
        SplitTree x = even(3, 1);
        x.set(0, 1, 60);
        due("index(3) before", () -> x.index(3), -58);
        x.smooth();
        due("distance(0, 1)", () -> x.distance(0, 1), 2);
        due("index(3)", () -> x.index(3), 0);
        due("treelike()", x::treelike, 1);
        SplitTree y = aroundZero();
        y.smooth();
        due("index(1)", () -> y.index(1), 0);
        due("index(13)", () -> y.index(13), 0);
        due("edges()", y::edges, 0);
        due("weight()", y::weight, 0);
        due("smooth() again", y::smooth, 1);
        due("distance(0, 1)", () -> y.distance(0, 1), 0);
    }

    /** Halving one pair and measuring the tree anew before the next gives other distances, in whatever order. */
    private static void smoothIsAllAtTheSameTime() {
        SplitTree x = even(4, 9);
        x.set(0, 1, 4);
        x.set(0, 2, 7);
        x.set(2, 3, 3);
        int[] sets = {1, 3, 7, 11, 13};
        int[] indices = {2, 9, 3, 1, 4};
        for (int n = 0; n < sets.length; n++) {
            int number = n;
            due("edge(" + n + ")", () -> x.edge(number), sets[number]);
            due("index(" + sets[n] + ")", () -> x.index(sets[number]), indices[number]);
        }
        due("smooth()", x::smooth, 6);
        dueDistances("after it", x, 3, 6, 7, 7, 8, 2);
    }

    /**
     * Half a tree distance of 120 is 60 and stays so. More than 120 cannot be reached: the indices of the
     * edges between i and j are together at most 2 d(i, j). So what is looked at here is that nothing is
     * above 60, over all ways to put five points at 30 or 60 from each other.
     */
    private static void smoothAtMost60() {
        for (int n = 2; n <= 7; n++) {
            SplitTree x = even(n, 60);
            due("treeDistance(0, 1) of " + n + " points at 60", () -> x.treeDistance(0, 1), 120);
            due("smooth() of " + n + " points at 60", x::smooth, 0);
            due("distance(0, 1) after it", () -> x.distance(0, 1), 60);
        }
        for (int far = 0; far < 1024; far++) {
            SplitTree x = farOrNear(far);
            SplitTree like = farOrNear(far);
            x.smooth();
            for (int i = 1; i < 5; i++) {
                for (int j = 0; j < i; j++) {
                    int a = i;
                    int b = j;
                    int want = Math.min(60, like.treeDistance(a, b) / 2);
                    due("distance(" + a + ", " + b + ") in way " + far, () -> x.distance(a, b), want);
                }
            }
        }
    }

    /**
     * No run of calls makes a tree distance above 120, so the index of the one split of two points is put
     * there by hand. This is the one test that knows how the state is held.
     */
    private static void smoothIs60WhereHalfIsMore() {
        int[] indices = {118, 119, 120, 121, 122, 123, 240, 1000};
        int[] halves = {59, 59, 60, 60, 60, 60, 60, 60};
        for (int n = 0; n < indices.length; n++) {
            int half = halves[n];
            SplitTree x = even(2, 5);
            heldIndices(x)[1] = indices[n];
            due("smooth() with a tree distance of " + indices[n], x::smooth, 1);
            due("distance(0, 1) after it", () -> x.distance(0, 1), half);
            due("treeDistance(0, 1) after it", () -> x.treeDistance(0, 1), 2 * half);
        }
    }

    private static int[] heldIndices(SplitTree x) {
        try {
            Field held = SplitTree.class.getDeclaredField("indices");
            held.setAccessible(true);
            return (int[]) held.get(x);
        } catch (ReflectiveOperationException thrown) {
            throw new IllegalStateException(thrown);
        }
    }

    /** Five points; a bit of far for each pair says whether it is at 60 or at 30. */
    private static SplitTree farOrNear(int far) {
        SplitTree x = even(5, 30);
        int pair = 0;
        for (int i = 1; i < 5; i++) {
            for (int j = 0; j < i; j++) {
                if ((far >> pair) % 2 == 1) {
                    x.set(i, j, 60);
                }
                pair++;
            }
        }
        return x;
    }

    private static void smoothCountsThePairsChanged() {
        due("smooth() of no points", new SplitTree()::smooth, 0);
        due("smooth() of one point", even(1, 60)::smooth, 0);
        due("smooth() of two points", even(2, 60)::smooth, 0);
        due("smooth() of a tree", tree(7)::smooth, 0);
        SplitTree x = even(3, 1);
        x.set(0, 1, 60);
        due("smooth() with one pair too far", x::smooth, 1);
        dueDistances("after it", x, 2, 1, 1);
        due("smooth() again", x::smooth, 0);
        SplitTree ring = even(4, 2);
        ring.set(0, 2, 4);
        ring.set(1, 3, 4);
        due("smooth() with no edge at all", ring::smooth, 6);
        dueDistances("after it", ring, 0, 0, 0, 0, 0, 0);
        due("smooth() with all at 0", ring::smooth, 0);
    }

    // Promise 7

    private static void pointsFrom0To7() {
        SplitTree x = new SplitTree();
        due("points() of none", x::points, 0);
        for (int n = 1; n <= 7; n++) {
            int number = n;
            x.point(60);
            due("points()", x::points, number);
        }
        x.point(60);
        due("points() after FULL", x::points, 7);
        for (int n = 6; n >= 0; n--) {
            int number = n;
            x.drop();
            due("points() after drop()", x::points, number);
        }
        x.drop();
        due("points() after NONE", x::points, 0);
    }

    // Promises 8, 12 and 13

    private interface OfPair {
        int ask(SplitTree x, int i, int j);
    }

    private static void noPointIOrJ(String name, OfPair method) {
        for (int n = 0; n <= 7; n++) {
            SplitTree x = even(n, 4);
            String of = " of " + n + " points";
            for (int i : notPoints(n)) {
                due(name + "(0, " + i + ")" + of, () -> method.ask(x, 0, i), BAD_ARG);
                due(name + "(" + i + ", 0)" + of, () -> method.ask(x, i, 0), BAD_ARG);
                due(name + "(" + i + ", " + i + ")" + of, () -> method.ask(x, i, i), BAD_ARG);
            }
            for (int i = 0; i < n; i++) {
                int a = i;
                int last = n - 1;
                dueAnswered(name + "(" + a + ", " + last + ")" + of, () -> method.ask(x, a, last));
                dueAnswered(name + "(" + last + ", " + a + ")" + of, () -> method.ask(x, last, a));
            }
        }
    }

    private static void distanceAtTheEnds() {
        SplitTree x = even(7, 0);
        x.set(0, 6, 60);
        due("distance(0, 6)", () -> x.distance(0, 6), 60);
        due("distance(6, 0)", () -> x.distance(6, 0), 60);
        due("distance(5, 6)", () -> x.distance(5, 6), 0);
        due("distance(6, 6)", () -> x.distance(6, 6), 0);
        due("distance(0, 0)", () -> x.distance(0, 0), 0);
        due("distance(0, 0) of one point", () -> even(1, 60).distance(0, 0), 0);
    }

    private static void treeDistanceAtTheEnds() {
        due("treeDistance(0, 0) of one point", () -> even(1, 60).treeDistance(0, 0), 0);
        due("treeDistance(0, 1) of two at 60", () -> even(2, 60).treeDistance(0, 1), 120);
        due("treeDistance(0, 1) of two at 0", () -> even(2, 0).treeDistance(0, 1), 0);
        SplitTree x = tree(7);
        due("treeDistance(1, 6)", () -> x.treeDistance(1, 6), 46);
        due("treeDistance(6, 1)", () -> x.treeDistance(6, 1), 46);
        due("treeDistance(0, 1)", () -> x.treeDistance(0, 1), 6);
        due("treeDistance(6, 6)", () -> x.treeDistance(6, 6), 0);
    }

    private static void togetherAtTheEnds() {
        due("together(0, 0) of one point", () -> even(1, 60).together(0, 0), 1);
        due("together(0, 1) of two at 0", () -> even(2, 0).together(0, 1), 1);
        due("together(0, 1) of two at 1", () -> even(2, 1).together(0, 1), 0);
        SplitTree x = tree(7);
        for (int i = 0; i < 7; i++) {
            int a = i;
            due("together(" + a + ", " + a + ")", () -> x.together(a, a), 1);
            due("together(" + a + ", " + (6 - a) + ")", () -> x.together(a, 6 - a), a == 3 ? 1 : 0);
        }
    }

    // Promises 9 and 14

    private interface OfSet {
        int ask(SplitTree x, int set);
    }

    /** All sets of seven points and the extremes, with each number of points. */
    private static void noSplit(String name, OfSet method) {
        for (int n = 0; n <= 7; n++) {
            SplitTree x = even(n, 4);
            String of = " of " + n + " points";
            int all = (1 << n) - 1;
            for (int set = -130; set <= 260; set++) {
                int asked = set;
                if (set > 0 && set < all && set % 2 == 1) {
                    dueAnswered(name + "(" + set + ")" + of, () -> method.ask(x, asked));
                } else {
                    due(name + "(" + set + ")" + of, () -> method.ask(x, asked), BAD_ARG);
                }
            }
            for (int set : FAR_SETS) {
                due(name + "(" + set + ")" + of, () -> method.ask(x, set), BAD_ARG);
            }
        }
    }

    private static void indexAtTheEnds() {
        due("index(1) of two points at 60, the greatest", () -> even(2, 60).index(1), 120);
        SplitTree x = even(4, 0);
        x.set(0, 1, 60);
        x.set(2, 3, 60);
        due("index(3), the least", () -> x.index(3), -120);
        due("index(1)", () -> x.index(1), -60);
        SplitTree y = tree(7);
        due("index(1), point 0 alone", () -> y.index(1), 2);
        due("index(63), the last point alone", () -> y.index(63), 14);
        due("index(125), point 1 alone", () -> y.index(125), 4);
    }

    private static void agreesWithAllEdges() {
        for (int set = 1; set < 127; set += 2) {
            int split = set;
            due("agrees(" + set + ") with no edge", () -> even(7, 0).agrees(split), 1);
            due("agrees(" + set + ") with edges of single points", () -> even(7, 1).agrees(split), 1);
        }
        SplitTree x = even(5, 0);
        x.move(3, 4);
        x.move(7, 4);
        due("agrees(5), with the edge 7 alone", () -> x.agrees(5), 0);
        due("agrees(11), with the edge 3 alone", () -> x.agrees(11), 0);
        due("agrees(9), with neither", () -> x.agrees(9), 0);
        due("agrees(3), with both", () -> x.agrees(3), 1);
        due("agrees(15), with both", () -> x.agrees(15), 1);
    }

    // Promises 10 and 11

    private static void edgesFrom0To11() {
        due("edges() of no points", new SplitTree()::edges, 0);
        due("edges() of one point", even(1, 60)::edges, 0);
        due("edges() of two at 0", even(2, 0)::edges, 0);
        due("edges() of two at 1", even(2, 1)::edges, 1);
        due("edges() of seven at 0", even(7, 0)::edges, 0);
        due("edges() of seven at 1", even(7, 1)::edges, 7);
        for (int n = 3; n <= 7; n++) {
            int most = 2 * n - 3;
            due("edges() of the tree of " + n, tree(n)::edges, most);
        }
    }

    private static void edgeByTheLesserSets() {
        SplitTree x = tree(7);
        int[] sets = {1, 3, 7, 15, 31, 63, 95, 111, 119, 123, 125};
        for (int n = 0; n < sets.length; n++) {
            int number = n;
            due("edge(" + n + ")", () -> x.edge(number), sets[number]);
        }
    }

    private static void edgeThatIsNot() {
        for (int n : new int[] {MIN, MIN + 1, -128, -11, -2, -1, 11, 12, 63, 64, 127, 128, 1 << 30, MAX}) {
            due("edge(" + n + ") of eleven", () -> tree(7).edge(n), NONE);
            due("edge(" + n + ") of no points", () -> new SplitTree().edge(n), NONE);
        }
        due("edge(10) of eleven", () -> tree(7).edge(10), 125);
        due("edge(0) of no points", () -> new SplitTree().edge(0), NONE);
        due("edge(0) of one point", () -> even(1, 60).edge(0), NONE);
        due("edge(0) of two at 0", () -> even(2, 0).edge(0), NONE);
        due("edge(0) of two at 1", () -> even(2, 1).edge(0), 1);
        due("edge(1) of two at 1", () -> even(2, 1).edge(1), NONE);
        due("edge(-1) of two at 1", () -> even(2, 1).edge(-1), NONE);
    }

    // Promise 15

    private static void agreeingFromNoneToAll() {
        due("agreeing() of no points", new SplitTree()::agreeing, 0);
        due("agreeing() of one point", even(1, 60)::agreeing, 0);
        due("agreeing() of two points", even(2, 60)::agreeing, 1);
        due("agreeing() of two points at 0", even(2, 0)::agreeing, 1);
        due("agreeing() of seven with no edge", even(7, 0)::agreeing, 63);
        due("agreeing() of seven with edges of single points", even(7, 60)::agreeing, 63);
        due("agreeing() of seven with eleven edges, which are all", tree(7)::agreeing, 11);
    }

    // Promise 16

    private static void treelikeOfFewPoints() {
        due("treelike() of no points", new SplitTree()::treelike, 1);
        due("treelike() of one point", even(1, 60)::treelike, 1);
        due("treelike() of two at 0", even(2, 0)::treelike, 1);
        due("treelike() of two at 60", even(2, 60)::treelike, 1);
        due("treelike() of seven at 0", even(7, 0)::treelike, 1);
        due("treelike() of seven at 60", even(7, 60)::treelike, 1);
        due("treelike() of the tree", tree(7)::treelike, 1);
    }

    // Promises 17 and 18

    private static void spanOfNoTwoPoints() {
        due("span() of no points", new SplitTree()::span, 0);
        due("span() of one point", even(1, 60)::span, 0);
        SplitTree x = even(2, 60);
        due("span() of two at 60", x::span, 120);
        x.drop();
        due("span() of one that is left", x::span, 0);
        x.drop();
        due("span() of none that is left", x::span, 0);
        due("span() of two at 0", even(2, 0)::span, 0);
        due("span() of two at 1", even(2, 1)::span, 2);
    }

    private static void spanIsTheGreatest() {
        due("span() of the tree", tree(7)::span, 46);
        due("span() of seven at 60", even(7, 60)::span, 120);
        for (int i = 0; i < 7; i++) {
            for (int j = 0; j < i; j++) {
                SplitTree x = even(7, 9);
                x.move(1 << i, 5);
                x.move(1 << j, 7);
                due("span() from " + i + " to " + j, x::span, 42);
            }
        }
    }

    private static void weightFrom0On() {
        due("weight() of no points", new SplitTree()::weight, 0);
        due("weight() of one point", even(1, 60)::weight, 0);
        due("weight() of two at 0", even(2, 0)::weight, 0);
        due("weight() of two at 60", even(2, 60)::weight, 120);
        due("weight() of seven at 60", even(7, 60)::weight, 420);
        due("weight() of the tree", tree(7)::weight, 84);
        SplitTree x = even(3, 1);
        x.set(0, 1, 60);
        due("weight() with an index of -58", x::weight, 4);
        SplitTree y = even(4, 0);
        y.set(0, 1, 60);
        due("weight() with no index above 0", y::weight, 0);
    }

    private static void whatItIs() {
        test("An object is used for at most 512 calls", BoundaryTest::the512thCall);
    }

    private static void terms() {
        test("There are up to 7 POINTS, numbered from 0 on", BoundaryTest::upToSevenPoints);
        test("d(i, j) = d(j, i)", BoundaryTest::distancesAreTheSameBothWays);
        test("a whole number from 0 to 60", BoundaryTest::distancesFrom0To60);
        test("d(i, i) = 0", BoundaryTest::aPointIsAt0FromItself);
        test("(Nothing else is asked of distances.)", BoundaryTest::nothingElseIsAskedOfDistances);
        test("two sides, A and B, neither of them empty", BoundaryTest::neitherSideIsEmpty);
        test("the side that has point 0", BoundaryTest::theSideThatHasPoint0);
        test("(a = a2 and b = b2 are allowed too)", BoundaryTest::oneSideOfOnePoint);
        test("for a and a2 in A and b and b2 in B", BoundaryTest::bothPairingsCount);
        test("Splits with an index above 0 are EDGES.", BoundaryTest::anEdgeIsAbove0);
        test("An edge PARTS two points if they are on different sides.", BoundaryTest::anEdgePartsItsSides);
        test("Two splits AGREE if one of the four sets of points .. is empty.",
            BoundaryTest::splitsAgreeIfOneOfFourIsEmpty);
        test("for all points i, j, k, l (not all different, perhaps)",
            BoundaryTest::treelikeWithPointsNotAllDifferent);
        test("the two greatest of the three numbers .. are equal", BoundaryTest::theTwoGreatestAreEqual);
        test("No call ever throws.", BoundaryTest::noCallThrows);
        test("A refused call answers the code named and changes nothing.", BoundaryTest::aRefusedCallChangesNothing);
        test("A refused call .. changes nothing, for later calls", BoundaryTest::aRefusedCallLeavesNoTrace);
        test("Nothing is promised beyond the answers and state changes described above",
            BoundaryTest::askingChangesNothing);
        test("BAD_ARG = -1000, FULL = -1001, NONE = -1002", BoundaryTest::theConstants);
    }

    private static void callsThatChange() {
        test("1: There are no points.", BoundaryTest::aNewObjectHasNoPoints);
        test("2: Adds a point at distance d from all others.", BoundaryTest::aPointIsAtDFromAllOthers);
        test("2: Adds a point .., where another one was", BoundaryTest::aPointInTheOldOnesPlace);
        test("2: Tested in this order: d not 0 to 60 answers BAD_ARG; FULL.", BoundaryTest::pointTestsDFirst);
        test("3: Takes the last point away", BoundaryTest::dropTakesTheLast);
        test("3: NONE if there is none. Otherwise how many are left.", BoundaryTest::dropWithNone);
        test("4: d(i, j) becomes d. .. Otherwise what it was.", BoundaryTest::setAnswersWhatItWas);
        test("4: BAD_ARG if there is no point i or j", BoundaryTest::setWithNoPoint);
        test("4: BAD_ARG if .. i = j", BoundaryTest::setWithEqualPoints);
        test("4: BAD_ARG if .. d is not 0 to 60", BoundaryTest::setOutside0To60);
        test("5: (bits for no points are not looked at)", BoundaryTest::moveLooksAtNoOtherBits);
        test("5: (bits for no points ..), after drop", BoundaryTest::moveLooksAtNoDroppedPoint);
        test("5: for all i of the set and all j not of the set", BoundaryTest::moveWithAnEmptySide);
        test("5: where the sum is from 0 to 60; it stays as it was where not", BoundaryTest::moveStaysFrom0To60);
        test("5: BAD_ARG if d is not -60 to 60.", BoundaryTest::moveOutsideMinus60To60);
        test("5: Otherwise how many of the pairs i, j changed.", BoundaryTest::moveCountsThePairsChanged);
        test("6: The distances become half the tree distances", BoundaryTest::smoothMakesNewDistances);
        test("6: half the tree distances, rounded down", BoundaryTest::smoothRoundsDown);
        test("6: all at the same time", BoundaryTest::smoothIsAllAtTheSameTime);
        test("6: (60 where that is more)", BoundaryTest::smoothAtMost60);
        test("6: (60 where that is more), beyond what distances can make", BoundaryTest::smoothIs60WhereHalfIsMore);
        test("6: Answers how many pairs of points changed.", BoundaryTest::smoothCountsThePairsChanged);
    }

    private static void callsThatAsk() {
        test("7: The number of points.", BoundaryTest::pointsFrom0To7);
        test("8: d(i, j)", BoundaryTest::distanceAtTheEnds);
        test("8: BAD_ARG if there is no point i or j.", () -> noPointIOrJ("distance", SplitTree::distance));
        test("9: The index of the split with this set", BoundaryTest::indexAtTheEnds);
        test("9: BAD_ARG if that is not a set of points with point 0, or has all points.",
            () -> noSplit("index", SplitTree::index));
        test("10: The number of edges.", BoundaryTest::edgesFrom0To11);
        test("11: The set of the edge that has n edges with lesser sets before it",
            BoundaryTest::edgeByTheLesserSets);
        test("11: NONE if there is none.", BoundaryTest::edgeThatIsNot);
        test("12: The tree distance of i and j", BoundaryTest::treeDistanceAtTheEnds);
        test("12: BAD_ARG if there is no point i or j.", () -> noPointIOrJ("treeDistance", SplitTree::treeDistance));
        test("13: 1 if i and j are together, else 0", BoundaryTest::togetherAtTheEnds);
        test("13: BAD_ARG if there is no point i or j.", () -> noPointIOrJ("together", SplitTree::together));
        test("14: 1 if the split with this set agrees with all edges, else 0", BoundaryTest::agreesWithAllEdges);
        test("14: BAD_ARG as for index.", () -> noSplit("agrees", SplitTree::agrees));
        test("15: How many splits there are that agree with all edges.", BoundaryTest::agreeingFromNoneToAll);
        test("16: 1 if the distances are treelike, else 0.", BoundaryTest::treelikeOfFewPoints);
        test("17: The greatest tree distance of two points", BoundaryTest::spanIsTheGreatest);
        test("17: 0 if there are no two points.", BoundaryTest::spanOfNoTwoPoints);
        test("18: The sum of the indices of all edges.", BoundaryTest::weightFrom0On);
    }

    public static void main(String[] args) {
        whatItIs();
        terms();
        callsThatChange();
        callsThatAsk();
        System.out.println(wrong == 0 ? "all answers are as due" : wrong + " answers are not as due");
        if (wrong != 0) {
            System.exit(1);
        }
    }
}
