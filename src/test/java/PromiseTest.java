import java.util.function.IntSupplier;

/** Each promise by hand: ordinary inputs, the edges that the document names, wrong inputs. */
public final class PromiseTest {
    private static final int BAD_ARG = -1000;
    private static final int FULL = -1001;
    private static final int NONE = -1002;
    private static final int[] NO_POINTS_EVER = {-1, 7, 8, 32, 64, -7, Integer.MIN_VALUE, Integer.MAX_VALUE};

    private static int wrong = 0;

    private static void due(String what, IntSupplier call, int want) {
        String got;
        try {
            int answer = call.getAsInt();
            if (answer == want) {
                return;
            }
            got = "answered " + answer;
        } catch (RuntimeException thrown) {
            got = "threw " + thrown;
        }
        wrong++;
        System.out.println(what + " " + got + ", due is " + want);
    }

    /** An object whose n points are all at distance d from each other. */
    private static SplitTree even(int n, int d) {
        SplitTree x = new SplitTree();
        for (int i = 0; i < n; i++) {
            x.point(d);
        }
        return x;
    }

    /** Four points on a ring, neighbours at distance 2 and opposite ones at 4: no split has an index above 0. */
    private static SplitTree ring() {
        SplitTree x = even(4, 2);
        x.set(0, 2, 4);
        x.set(1, 3, 4);
        return x;
    }

    /** Leaves of lengths 1, 2, 3, 4 on an inner edge of length 5 between {0, 1} and {2, 3}. */
    private static SplitTree quartet() {
        SplitTree x = even(4, 0);
        x.move(1, 1);
        x.move(2, 2);
        x.move(4, 3);
        x.move(8, 4);
        x.move(3, 5);
        return x;
    }

    private static void dueDistances(String what, SplitTree x, int... want) {
        int at = 0;
        for (int i = 0; i < x.points(); i++) {
            for (int j = 0; j < i; j++) {
                int a = i;
                int b = j;
                due(what + ": distance(" + a + ", " + b + ")", () -> x.distance(a, b), want[at]);
                due(what + ": distance(" + b + ", " + a + ")", () -> x.distance(b, a), want[at]);
                at++;
            }
        }
        int pairs = at;
        due(what + ": pairs", () -> pairs, want.length);
    }

    private static void promise1NewObject() {
        SplitTree x = new SplitTree();
        due("1: points()", x::points, 0);
        due("1: distance(0, 0)", () -> x.distance(0, 0), BAD_ARG);
        due("1: edges()", x::edges, 0);
        due("1: smooth()", x::smooth, 0);
        due("1: move(1, 3)", () -> x.move(1, 3), 0);
        due("1: drop()", x::drop, NONE);
        SplitTree other = even(3, 4);
        due("1: points() beside another object", x::points, 0);
        due("1: points() of the other", other::points, 3);
    }

    private static void promise2Point() {
        SplitTree x = new SplitTree();
        due("2: point(-1)", () -> x.point(-1), BAD_ARG);
        due("2: point(61)", () -> x.point(61), BAD_ARG);
        due("2: point(MIN)", () -> x.point(Integer.MIN_VALUE), BAD_ARG);
        due("2: point(MAX)", () -> x.point(Integer.MAX_VALUE), BAD_ARG);
        due("2: points() after refusals", x::points, 0);
        due("2: point(60)", () -> x.point(60), 0);
        due("2: point(0)", () -> x.point(0), 1);
        due("2: point(60) third", () -> x.point(60), 2);
        due("2: point(7)", () -> x.point(7), 3);
        dueDistances("2", x, 0, 60, 60, 7, 7, 7);
        due("2: distance(3, 3)", () -> x.distance(3, 3), 0);
        for (int i = 4; i < 7; i++) {
            int number = i;
            due("2: point(1)", () -> x.point(1), number);
        }
        due("2: point(1) when full", () -> x.point(1), FULL);
        due("2: point(61) when full", () -> x.point(61), BAD_ARG);
        due("2: point(-1) when full", () -> x.point(-1), BAD_ARG);
        due("2: points() when full", x::points, 7);
        due("2: distance(0, 2) when full", () -> x.distance(0, 2), 60);
    }

    private static void promise3Drop() {
        SplitTree x = even(3, 9);
        x.set(0, 2, 30);
        x.set(1, 2, 31);
        due("3: drop()", x::drop, 2);
        due("3: distance(0, 2) of the point taken", () -> x.distance(0, 2), BAD_ARG);
        due("3: distance(0, 1)", () -> x.distance(0, 1), 9);
        due("3: index(1)", () -> x.index(1), 18);
        due("3: point(5) in its place", () -> x.point(5), 2);
        dueDistances("3", x, 9, 5, 5);
        due("3: drop()", x::drop, 2);
        due("3: drop()", x::drop, 1);
        due("3: drop()", x::drop, 0);
        due("3: drop() with none", x::drop, NONE);
        due("3: points()", x::points, 0);
        SplitTree full = even(7, 1);
        due("3: drop() from 7", full::drop, 6);
        due("3: point(2) after it", () -> full.point(2), 6);
    }

    private static void promise4Set() {
        SplitTree x = even(3, 9);
        due("4: set(0, 1, 0)", () -> x.set(0, 1, 0), 9);
        due("4: set(1, 0, 60)", () -> x.set(1, 0, 60), 0);
        due("4: set(2, 0, 5)", () -> x.set(2, 0, 5), 9);
        due("4: set(0, 2, 5)", () -> x.set(0, 2, 5), 5);
        dueDistances("4", x, 60, 5, 9);
        due("4: set(1, 1, 0)", () -> x.set(1, 1, 0), BAD_ARG);
        due("4: set(0, 0, 7)", () -> x.set(0, 0, 7), BAD_ARG);
        due("4: set(0, 1, -1)", () -> x.set(0, 1, -1), BAD_ARG);
        due("4: set(0, 1, 61)", () -> x.set(0, 1, 61), BAD_ARG);
        due("4: set(0, 3, 1)", () -> x.set(0, 3, 1), BAD_ARG);
        due("4: set(3, 0, 1)", () -> x.set(3, 0, 1), BAD_ARG);
        for (int i : NO_POINTS_EVER) {
            due("4: set(0, " + i + ", 1)", () -> x.set(0, i, 1), BAD_ARG);
            due("4: set(" + i + ", 0, 1)", () -> x.set(i, 0, 1), BAD_ARG);
        }
        dueDistances("4 after refusals", x, 60, 5, 9);
        due("4: index(1) after it", () -> x.index(1), 10);
        due("4: index(5) after it", () -> x.index(5), 18);
    }

    private static void promise5Move() {
        SplitTree x = even(4, 10);
        due("5: move(5, 3)", () -> x.move(5, 3), 4);
        dueDistances("5", x, 13, 10, 13, 13, 10, 13);
        due("5: move(10, -3), the other side", () -> x.move(10, -3), 4);
        dueDistances("5 back", x, 10, 10, 10, 10, 10, 10);
        due("5: move(0, 5)", () -> x.move(0, 5), 0);
        due("5: move(15, 5)", () -> x.move(15, 5), 0);
        due("5: move(-1, 5)", () -> x.move(-1, 5), 0);
        due("5: move(112, 5), no points", () -> x.move(112, 5), 0);
        due("5: move(1, 0)", () -> x.move(1, 0), 0);
        due("5: move(1, 61)", () -> x.move(1, 61), BAD_ARG);
        due("5: move(1, -61)", () -> x.move(1, -61), BAD_ARG);
        due("5: move(0, 61)", () -> x.move(0, 61), BAD_ARG);
        due("5: move(1, MIN)", () -> x.move(1, Integer.MIN_VALUE), BAD_ARG);
        due("5: move(1, MAX)", () -> x.move(1, Integer.MAX_VALUE), BAD_ARG);
        dueDistances("5 after refusals", x, 10, 10, 10, 10, 10, 10);
        due("5: move(MIN + 1, 1)", () -> x.move(Integer.MIN_VALUE + 1, 1), 3);
        dueDistances("5 far bits", x, 11, 11, 10, 11, 10, 10);
        due("5: move(-2, 1)", () -> x.move(-2, 1), 3);
        dueDistances("5 negative set", x, 12, 12, 10, 12, 10, 10);
    }

    private static void promise5MoveAtTheEnds() {
        SplitTree x = even(3, 0);
        x.set(0, 1, 57);
        x.set(0, 2, 58);
        x.set(1, 2, 2);
        due("5: move(1, 3) over 60 for one", () -> x.move(1, 3), 1);
        dueDistances("5 over", x, 60, 58, 2);
        due("5: move(4, -3) under 0 for one", () -> x.move(4, -3), 1);
        dueDistances("5 under", x, 60, 55, 2);
        due("5: move(1, -60) to 0", () -> x.move(1, -60), 1);
        dueDistances("5 to 0", x, 0, 55, 2);
        due("5: move(2, 60)", () -> x.move(2, 60), 1);
        dueDistances("5 to 60", x, 60, 55, 2);
        due("5: index(5) after it", () -> x.index(5), 4);
    }

    private static void promise6Smooth() {
        SplitTree x = ring();
        due("6: smooth() of the ring", x::smooth, 6);
        dueDistances("6 ring", x, 0, 0, 0, 0, 0, 0);
        due("6: smooth() again", x::smooth, 0);
        due("6: smooth() of a tree", quartet()::smooth, 0);

        SplitTree odd = even(3, 2);
        odd.set(0, 1, 3);
        due("6: smooth() of three points on a tree", odd::smooth, 0);
        dueDistances("6 three", odd, 3, 2, 2);

        SplitTree far = even(3, 1);
        far.set(0, 1, 60);
        due("6: index(1) before", () -> far.index(1), 2);
        due("6: index(3) before", () -> far.index(3), -58);
        due("6: index(5) before", () -> far.index(5), 2);
        due("6: smooth() of a broken triangle", far::smooth, 1);
        dueDistances("6 broken", far, 2, 1, 1);
        due("6: index(3) after", () -> far.index(3), 0);

        due("6: smooth() of one point", even(1, 5)::smooth, 0);
        due("6: smooth() of two points", even(2, 60)::smooth, 0);
    }

    /** The halves here are 1 and 1/2, then 3, 2 1/2, 1 1/2 and 1. */
    private static void promise6SmoothRoundsDown() {
        SplitTree x = even(4, 1);
        x.set(0, 1, 2);
        due("6: index(1)", () -> x.index(1), 1);
        due("6: index(5)", () -> x.index(5), 0);
        due("6: index(13)", () -> x.index(13), 1);
        due("6: index(7)", () -> x.index(7), 0);
        due("6: treeDistance(0, 1)", () -> x.treeDistance(0, 1), 2);
        due("6: treeDistance(0, 2)", () -> x.treeDistance(0, 2), 1);
        due("6: smooth() with tree distances 2, 1 and 0", x::smooth, 6);
        dueDistances("6 small", x, 1, 0, 0, 0, 0, 0);

        SplitTree y = even(3, 3);
        y.set(0, 1, 4);
        y.point(2);
        due("6: smooth() with odd tree distances", y::smooth, 6);
        dueDistances("6 odd", y, 3, 2, 2, 1, 1, 1);
    }

    private static void promise7Points() {
        SplitTree x = new SplitTree();
        for (int n = 1; n <= 7; n++) {
            int number = n;
            x.point(n);
            due("7: points()", x::points, number);
        }
        x.point(3);
        due("7: points() after FULL", x::points, 7);
        x.drop();
        due("7: points() after drop()", x::points, 6);
    }

    private static void promise8Distance() {
        SplitTree x = quartet();
        dueDistances("8", x, 3, 9, 10, 10, 11, 7);
        due("8: distance(0, 0)", () -> x.distance(0, 0), 0);
        due("8: distance(3, 3)", () -> x.distance(3, 3), 0);
        due("8: distance(0, 4)", () -> x.distance(0, 4), BAD_ARG);
        due("8: distance(4, 0)", () -> x.distance(4, 0), BAD_ARG);
        due("8: distance(4, 4)", () -> x.distance(4, 4), BAD_ARG);
        for (int i : NO_POINTS_EVER) {
            due("8: distance(0, " + i + ")", () -> x.distance(0, i), BAD_ARG);
            due("8: distance(" + i + ", 0)", () -> x.distance(i, 0), BAD_ARG);
        }
    }

    private static void promise9Index() {
        SplitTree x = quartet();
        due("9: index(1)", () -> x.index(1), 2);
        due("9: index(13)", () -> x.index(13), 4);
        due("9: index(11)", () -> x.index(11), 6);
        due("9: index(7)", () -> x.index(7), 8);
        due("9: index(3)", () -> x.index(3), 10);
        due("9: index(5)", () -> x.index(5), -10);
        due("9: index(9)", () -> x.index(9), -10);
        dueNoSplits("9: index", x::index);
        SplitTree two = even(2, 60);
        due("9: index(1) of two points", () -> two.index(1), 120);
        due("9: index(3) of two points", () -> two.index(3), BAD_ARG);
        SplitTree one = even(1, 60);
        due("9: index(1) of one point", () -> one.index(1), BAD_ARG);
        SplitTree none = new SplitTree();
        due("9: index(1) of no point", () -> none.index(1), BAD_ARG);
        due("9: index(0) of no point", () -> none.index(0), BAD_ARG);
        SplitTree worst = even(4, 0);
        worst.set(0, 1, 60);
        worst.set(2, 3, 60);
        due("9: index(3), the least there is", () -> worst.index(3), -120);
    }

    /** a = a2 and b = b2 each on its own decides the index here. */
    private static void promise9IndexOfLikePoints() {
        SplitTree x = even(4, 0);
        for (int i = 0; i < 2; i++) {
            for (int j = 2; j < 4; j++) {
                x.set(i, j, 10);
            }
        }
        due("9: index(3) by a = a2 and b = b2", () -> x.index(3), 20);
        x.set(0, 2, 4);
        due("9: index(3) by the one near pair", () -> x.index(3), 8);
        x.set(0, 1, 20);
        due("9: index(3) by b = b2", () -> x.index(3), -6);
        x.set(0, 1, 0);
        x.set(2, 3, 20);
        due("9: index(3) by a = a2", () -> x.index(3), -6);
    }

    private interface OfSet {
        int of(int set);
    }

    /** Wrong sets for four points. */
    private static void dueNoSplits(String what, OfSet call) {
        int[] sets = {0, 2, 4, 6, 14, 15, 16, 17, 19, 31, 33, 65, 127, 129, -1, -3, -15, 1 << 30,
            (1 << 30) + 1, Integer.MIN_VALUE, Integer.MIN_VALUE + 1, Integer.MAX_VALUE};
        for (int set : sets) {
            due(what + "(" + set + ")", () -> call.of(set), BAD_ARG);
        }
    }

    private static void promise10And11Edges() {
        SplitTree x = quartet();
        due("10: edges()", x::edges, 5);
        int[] sets = {1, 3, 7, 11, 13};
        for (int n = 0; n < sets.length; n++) {
            int number = n;
            due("11: edge(" + n + ")", () -> x.edge(number), sets[number]);
        }
        for (int n : new int[] {5, 6, 63, 64, 128, -1, Integer.MIN_VALUE, Integer.MAX_VALUE}) {
            due("11: edge(" + n + ")", () -> x.edge(n), NONE);
        }
        due("10: edges() of the ring, an index of 0 is not above 0", ring()::edges, 0);
        due("11: edge(0) of the ring", () -> ring().edge(0), NONE);
        due("10: edges() of none", new SplitTree()::edges, 0);
        due("10: edges() of one", even(1, 5)::edges, 0);
        due("10: edges() of two", even(2, 5)::edges, 1);
        due("10: edges() of two at 0", even(2, 0)::edges, 0);
        due("11: edge(0) of none", () -> new SplitTree().edge(0), NONE);
        due("11: edge(0) of two", () -> even(2, 5).edge(0), 1);
        SplitTree star = even(7, 3);
        due("10: edges() of a star of seven", star::edges, 7);
        due("11: edge(6) of a star of seven", () -> star.edge(6), 125);
        star.drop();
        due("10: edges() of a star of six", star::edges, 6);
    }

    private static void promise12TreeDistance() {
        SplitTree x = quartet();
        due("12: treeDistance(0, 1)", () -> x.treeDistance(0, 1), 6);
        due("12: treeDistance(1, 3)", () -> x.treeDistance(1, 3), 22);
        due("12: treeDistance(3, 1)", () -> x.treeDistance(3, 1), 22);
        due("12: treeDistance(2, 2)", () -> x.treeDistance(2, 2), 0);
        due("12: treeDistance(4, 4)", () -> x.treeDistance(4, 4), BAD_ARG);
        due("12: treeDistance(0, 4)", () -> x.treeDistance(0, 4), BAD_ARG);
        for (int i : NO_POINTS_EVER) {
            due("12: treeDistance(0, " + i + ")", () -> x.treeDistance(0, i), BAD_ARG);
            due("12: treeDistance(" + i + ", 0)", () -> x.treeDistance(i, 0), BAD_ARG);
        }
        SplitTree y = even(3, 1);
        y.set(0, 1, 60);
        due("12: an index below 0 is not added", () -> y.treeDistance(0, 1), 4);
        due("12: nor here", () -> y.treeDistance(0, 2), 2);
    }

    private static void promise13Together() {
        SplitTree x = even(4, 0);
        x.move(3, 5);
        due("13: together(0, 1)", () -> x.together(0, 1), 1);
        due("13: together(3, 2)", () -> x.together(3, 2), 1);
        due("13: together(0, 2)", () -> x.together(0, 2), 0);
        due("13: together(2, 1)", () -> x.together(2, 1), 0);
        due("13: together(1, 1)", () -> x.together(1, 1), 1);
        due("13: together(0, 4)", () -> x.together(0, 4), BAD_ARG);
        due("13: together(4, 4)", () -> x.together(4, 4), BAD_ARG);
        for (int i : NO_POINTS_EVER) {
            due("13: together(0, " + i + ")", () -> x.together(0, i), BAD_ARG);
            due("13: together(" + i + ", 0)", () -> x.together(i, 0), BAD_ARG);
        }
        SplitTree y = even(3, 20);
        y.set(1, 2, 60);
        due("13: together(0, 1) parted by leaves", () -> y.together(0, 1), 0);
        y.point(0);
        due("13: distances above 0 and yet together", () -> y.together(1, 2), 1);
    }

    private static void promise14And15Agreement() {
        SplitTree x = ring();
        for (int set = 1; set < 15; set += 2) {
            int split = set;
            due("14: agrees(" + set + ") with no edge", () -> x.agrees(split), 1);
        }
        due("15: agreeing() of the ring", x::agreeing, 7);
        dueNoSplits("14: agrees", x::agrees);
        SplitTree y = quartet();
        due("14: agrees(3), an edge itself", () -> y.agrees(3), 1);
        due("14: agrees(5)", () -> y.agrees(5), 0);
        due("15: agreeing() of the quartet", y::agreeing, 5);
        due("15: agreeing() of none", new SplitTree()::agreeing, 0);
        due("15: agreeing() of one", even(1, 5)::agreeing, 0);
        due("15: agreeing() of two", even(2, 5)::agreeing, 1);
        due("15: agreeing() of seven with no edge", even(7, 0)::agreeing, 63);
        due("15: agreeing() of a star of seven", even(7, 8)::agreeing, 63);
        due("14: agrees(1) of one", () -> even(1, 5).agrees(1), BAD_ARG);
        due("14: agrees(1) of none", () -> new SplitTree().agrees(1), BAD_ARG);
    }

    /** Each of the three ways in which two splits of five points agree, and none of them. */
    private static void promise14WaysToAgree() {
        SplitTree x = even(5, 0);
        x.move(7, 4);
        due("14: one edge", x::edges, 1);
        due("14: the edge's set", () -> x.edge(0), 7);
        due("14: agrees(3), inside the edge", () -> x.agrees(3), 1);
        due("14: agrees(15), around the edge", () -> x.agrees(15), 1);
        due("14: agrees(25), all points with the edge", () -> x.agrees(25), 1);
        due("14: agrees(9), crossing", () -> x.agrees(9), 0);
        due("14: agrees(11), crossing", () -> x.agrees(11), 0);
        due("15: agreeing()", x::agreeing, 4 + 2 + 3);
    }

    private static void promise16Treelike() {
        due("16: treelike() of none", new SplitTree()::treelike, 1);
        due("16: treelike() of one", even(1, 5)::treelike, 1);
        due("16: treelike() of two", even(2, 5)::treelike, 1);
        due("16: treelike() of the quartet", quartet()::treelike, 1);
        due("16: treelike() of the ring", ring()::treelike, 0);
        due("16: treelike() of a star", even(7, 9)::treelike, 1);
        SplitTree x = even(3, 4);
        x.set(0, 1, 8);
        due("16: treelike() of a flat triangle", x::treelike, 1);
        x.set(0, 1, 9);
        due("16: treelike() of a broken triangle", x::treelike, 0);
        x.set(0, 1, 4);
        x.set(0, 2, 9);
        due("16: treelike() broken at 0, 2", x::treelike, 0);
        x.set(0, 2, 4);
        x.set(1, 2, 9);
        due("16: treelike() broken at 1, 2", x::treelike, 0);
        for (int i = 0; i < 7; i++) {
            for (int j = 0; j < i; j++) {
                SplitTree y = even(7, 9);
                y.set(i, j, 10);
                due("16: treelike() with one pair farther", y::treelike, 0);
                y.set(i, j, 8);
                due("16: treelike() with one pair nearer", y::treelike, 1);
            }
        }
    }

    private static void promise17And18Sums() {
        SplitTree x = quartet();
        due("17: span()", x::span, 22);
        due("18: weight()", x::weight, 30);
        due("17: span() of the ring", ring()::span, 0);
        due("18: weight() of the ring", ring()::weight, 0);
        due("17: span() of none", new SplitTree()::span, 0);
        due("17: span() of one", even(1, 60)::span, 0);
        due("17: span() of two", even(2, 60)::span, 120);
        due("18: weight() of none", new SplitTree()::weight, 0);
        due("18: weight() of one", even(1, 60)::weight, 0);
        due("18: weight() of two", even(2, 60)::weight, 120);
        due("17: span() of a star", even(7, 60)::span, 120);
        due("18: weight() of a star", even(7, 60)::weight, 420);
        SplitTree y = even(3, 1);
        y.set(0, 1, 60);
        due("17: span() is of the tree", y::span, 4);
        due("18: weight() has no index below 0", y::weight, 4);
        SplitTree z = even(7, 5);
        z.move(64, 20);
        due("17: span() to the last point", z::span, 50);
    }

    private static void constants() {
        due("BAD_ARG", () -> SplitTree.BAD_ARG, BAD_ARG);
        due("FULL", () -> SplitTree.FULL, FULL);
        due("NONE", () -> SplitTree.NONE, NONE);
    }

    public static void main(String[] args) {
        constants();
        promise1NewObject();
        promise2Point();
        promise3Drop();
        promise4Set();
        promise5Move();
        promise5MoveAtTheEnds();
        promise6Smooth();
        promise6SmoothRoundsDown();
        promise7Points();
        promise8Distance();
        promise9Index();
        promise9IndexOfLikePoints();
        promise10And11Edges();
        promise12TreeDistance();
        promise13Together();
        promise14And15Agreement();
        promise14WaysToAgree();
        promise16Treelike();
        promise17And18Sums();
        System.out.println(wrong == 0 ? "all answers are as due" : wrong + " answers are not as due");
        if (wrong != 0) {
            System.exit(1);
        }
    }
}
