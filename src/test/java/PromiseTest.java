import java.util.Arrays;

/** A test or more for each promise of the document: ordinary inputs, the edges that it names, wrong inputs. */
public final class PromiseTest {
    private static final int NONE = PlaneNet.NONE;
    private static final int REACH = 1000000000;
    private static final int[] WRONG = {Integer.MIN_VALUE, -REACH - 1, REACH + 1, Integer.MAX_VALUE};

    private static int wrong = 0;

    private interface Call {
        long answer();
    }

    public static void main(String[] args) {
        newObject();
        add();
        addWhenFull();
        clear();
        find();
        triangle();
        triangleOnCircle();
        neighbours();
        neighbour();
        neighbourOnLine();
        corner();
        locate();
        locateOnLine();
        located();
        nearest();
        closest();
        point();
        count();
        allCallsAtOnce();
        System.out.println(wrong == 0 ? "all promises hold" : wrong + " answers are not as due");
        if (wrong != 0) {
            System.exit(1);
        }
    }

    // ---- help

    private static void due(String what, long want, long got) {
        if (want != got) {
            wrong++;
            System.out.println(what + " answered " + got + ", due is " + want);
        }
    }

    private static void throwsThat(String what, Class<?> want, Call call) {
        String got = "nothing";
        try {
            call.answer();
        } catch (RuntimeException e) {
            got = e.getClass().getSimpleName();
        }
        if (!got.equals(want.getSimpleName())) {
            wrong++;
            System.out.println(what + " threw " + got + ", due is " + want.getSimpleName());
        }
    }

    private static void noArgument(String what, Call call) {
        throwsThat(what, IllegalArgumentException.class, call);
    }

    private static void noIndex(String what, Call call) {
        throwsThat(what, IndexOutOfBoundsException.class, call);
    }

    private static void noState(String what, Call call) {
        throwsThat(what, IllegalStateException.class, call);
    }

    /** x, y, x, y, .. */
    private static PlaneNet with(int... places) {
        PlaneNet net = new PlaneNet(1024);
        for (int i = 0; i < places.length; i += 2) {
            due("add", i / 2, net.add(places[i], places[i + 1]));
        }
        return net;
    }

    private static String triangles(PlaneNet net) {
        int[][] all = new int[net.count(1)][];
        for (int k = 0; k < all.length; k++) {
            all[k] = new int[] {net.triangle(k, 0), net.triangle(k, 1), net.triangle(k, 2)};
        }
        return Arrays.deepToString(all);
    }

    private static String corners(PlaneNet net) {
        int[] all = new int[net.count(2)];
        for (int k = 0; k < all.length; k++) {
            all[k] = net.corner(k);
        }
        return Arrays.toString(all);
    }

    private static String neighbours(PlaneNet net, int point) {
        int[] all = new int[net.neighbours(point)];
        for (int k = 0; k < all.length; k++) {
            all[k] = net.neighbour(point, k);
        }
        return Arrays.toString(all);
    }

    private static String where(PlaneNet net, int x, int y) {
        int[] all = {net.locate(x, y), net.located(0), net.located(1), net.located(2)};
        return Arrays.toString(all);
    }

    private static void same(String what, String want, String got) {
        if (!want.equals(got)) {
            wrong++;
            System.out.println(what + " answered " + got + ", due is " + want);
        }
    }

    // ---- promise 1

    private static void newObject() {
        due("NONE", -1, NONE);
        int[][] mosts = {{1, 1}, {2, 2}, {5, 5}, {500, 500}, {0, 1}, {-1, 1}, {Integer.MIN_VALUE, 1}};
        for (int[] most : mosts) {
            PlaneNet net = new PlaneNet(most[0]);
            takesPoints(net, most[0], most[1]);
            noState("add too many to " + most[0], () -> net.add(-1, -1));
            due("count(0) of a full one", most[1], net.count(0));
        }
        // More than 512 calls are not made, so that these are never full.
        for (int most : new int[] {512, 1023, 1024, 1025, Integer.MAX_VALUE}) {
            takesPoints(new PlaneNet(most), most, 509);
        }
    }

    private static void takesPoints(PlaneNet net, int most, int many) {
        due("count(0) of a new one", 0, net.count(0));
        due("count(1) of a new one", 0, net.count(1));
        due("count(2) of a new one", 0, net.count(2));
        for (int i = 0; i < many; i++) {
            due("add to " + most, i, net.add(i % 32, i / 32));
        }
    }

    // ---- promise 2

    private static void add() {
        PlaneNet net = with(-REACH, -REACH, REACH, REACH, -REACH, REACH, REACH, -REACH);
        due("add there again", NONE, net.add(REACH, REACH));
        due("add there again", NONE, net.add(-REACH, -REACH));
        due("add of the same x", 4, net.add(REACH, 5));
        due("add of the same y", 5, net.add(5, 5));
        due("count(0)", 6, net.count(0));
        for (int value : WRONG) {
            noArgument("add(" + value + ", 0)", () -> net.add(value, 0));
            noArgument("add(0, " + value + ")", () -> net.add(0, value));
        }
        due("count(0) after wrong ones", 6, net.count(0));
    }

    private static void addWhenFull() {
        PlaneNet net = new PlaneNet(3);
        net.add(0, 0);
        net.add(4, 0);
        net.add(0, 4);
        noState("add when full", () -> net.add(1, 1));
        noState("add when full", () -> net.add(9, 9));
        due("add there when full", NONE, net.add(4, 0));
        noArgument("wrong add when full", () -> net.add(REACH + 1, 0));
        due("count(0) when full", 3, net.count(0));
        same("triangles when full", "[[0, 1, 2]]", triangles(net));
        due("clear when full", 3, net.clear());
        due("add after clear", 0, net.add(1, 1));
    }

    // ---- promise 3

    private static void clear() {
        PlaneNet net = with(0, 0, 9, 0, 0, 9, 9, 9, 4, 4);
        due("clear", 5, net.clear());
        due("clear again", 0, net.clear());
        due("count(0)", 0, net.count(0));
        due("count(1)", 0, net.count(1));
        due("count(2)", 0, net.count(2));
        due("find", NONE, net.find(0, 0));
        due("locate", 0, net.locate(4, 4));
        noIndex("point", () -> net.point(0, 0));
        noIndex("triangle", () -> net.triangle(0, 0));
        noIndex("corner", () -> net.corner(0));
        noState("nearest", () -> net.nearest(0, 0));
        noState("closest", () -> net.closest(0));
        due("add after clear", 0, net.add(100, 0));
        due("add after clear", 1, net.add(0, 0));
        due("closest after clear", 10000, net.closest(0));
        due("add after clear", 2, net.add(0, 50));
        same("triangles after clear", "[[0, 2, 1]]", triangles(net));
        same("corners after clear", "[1, 0, 2]", corners(net));
    }

    // ---- promise 4

    private static void find() {
        PlaneNet net = with(3, 4, -REACH, REACH, 3, 5);
        due("find", 0, net.find(3, 4));
        due("find", 1, net.find(-REACH, REACH));
        due("find", 2, net.find(3, 5));
        due("find beside", NONE, net.find(3, 3));
        due("find turned", NONE, net.find(4, 3));
        due("find in none", NONE, new PlaneNet(5).find(0, 0));
        for (int value : WRONG) {
            noArgument("find(" + value + ", 0)", () -> net.find(value, 0));
            noArgument("find(0, " + value + ")", () -> net.find(0, value));
        }
    }

    // ---- promise 5

    private static void triangle() {
        PlaneNet net = with(0, 0, 10, 0, 0, 10);
        same("one triangle", "[[0, 1, 2]]", triangles(net));
        same("one triangle, told the other way", "[[0, 2, 1]]", triangles(with(0, 0, 0, 10, 10, 0)));
        net.add(3, 3);
        same("three triangles", "[[0, 1, 3], [0, 3, 2], [1, 2, 3]]", triangles(net));
        int[][] none = {{-1, 0}, {3, 0}, {0, -1}, {0, 3}, {Integer.MIN_VALUE, 0}, {Integer.MAX_VALUE, 2}, {0, Integer.MAX_VALUE}, {0, Integer.MIN_VALUE}};
        for (int[] one : none) {
            noIndex("triangle(" + one[0] + ", " + one[1] + ")", () -> net.triangle(one[0], one[1]));
        }
        PlaneNet line = with(0, 0, 1, 1, 2, 2, 3, 3);
        due("triangles on a line", 0, line.count(1));
        noIndex("triangle on a line", () -> line.triangle(0, 0));
        line.add(3, 2);
        same("a line and one more", "[[0, 4, 1], [1, 4, 2], [2, 4, 3]]", triangles(line));
        PlaneNet outside = with(0, 0, 4, 0, 4, 3, -3, 1);
        same("one more outside", "[[0, 1, 2], [0, 2, 3]]", triangles(outside));
        PlaneNet onSide = with(0, 0, 10, 0, 0, 10, 5, 0);
        same("one more on an outer side", "[[0, 3, 2], [1, 2, 3]]", triangles(onSide));
        PlaneNet onLineOfSide = with(0, 0, 10, 0, 0, 10, 15, 0);
        same("one more on the line of an outer side", "[[0, 1, 2], [1, 3, 2]]", triangles(onLineOfSide));
    }

    private static void triangleOnCircle() {
        same("a square, its least first", "[[0, 1, 2], [0, 2, 3]]", triangles(with(0, 0, 1, 0, 1, 1, 0, 1)));
        same("a square, its least last", "[[0, 1, 3], [1, 2, 3]]", triangles(with(1, 0, 1, 1, 0, 1, 0, 0)));
        same("a square, its least second", "[[0, 1, 3], [1, 2, 3]]", triangles(with(0, 1, 0, 0, 1, 0, 1, 1)));
        same("a far square", "[[0, 1, 2], [0, 2, 3]]", triangles(with(-REACH, -REACH, REACH, -REACH, REACH, REACH, -REACH, REACH)));
        same("just inside a far square's circle", "[[0, 1, 3], [1, 2, 3]]",
            triangles(with(-REACH, -REACH, REACH, -REACH + 1, REACH, REACH, -REACH, REACH)));
        same("just inside a far square's circle", "[[0, 1, 2], [0, 2, 3]]",
            triangles(with(-REACH, -REACH, REACH, -REACH, REACH - 1, REACH, -REACH, REACH)));
        PlaneNet eight = with(5, 0, 4, 3, 3, 4, 0, 5, -3, 4, -4, 3, -5, 0, 0, -5);
        same("eight on a circle", "[[0, 1, 6], [0, 6, 7], [1, 2, 6], [2, 3, 6], [3, 4, 6], [4, 5, 6]]", triangles(eight));
    }

    // ---- promises 6 and 7

    private static void neighbours() {
        PlaneNet net = with(0, 0, 10, 0, 0, 10, 3, 3);
        for (int i = 0; i < 4; i++) {
            due("neighbours(" + i + ")", 3, net.neighbours(i));
        }
        due("neighbours of one alone", 0, with(5, 5).neighbours(0));
        due("neighbours of one of two", 1, with(5, 5, 6, 6).neighbours(1));
        for (int value : new int[] {-1, 4, Integer.MIN_VALUE, Integer.MAX_VALUE}) {
            noIndex("neighbours(" + value + ")", () -> net.neighbours(value));
        }
        noIndex("neighbours in none", () -> new PlaneNet(9).neighbours(0));
    }

    private static void neighbour() {
        PlaneNet net = with(0, 0, 10, 0, 0, 10, 3, 3);
        same("neighbours of one inside", "[0, 1, 2]", neighbours(net, 3));
        same("neighbours of a corner", "[1, 3, 2]", neighbours(net, 0));
        same("neighbours, through the outside", "[0, 2, 3]", neighbours(net, 1));
        same("neighbours, through the outside", "[0, 3, 1]", neighbours(net, 2));
        int[][] none = {{-1, 0}, {4, 0}, {0, -1}, {0, 3}, {Integer.MIN_VALUE, 0}, {Integer.MAX_VALUE, 0}, {0, Integer.MAX_VALUE}, {3, 3}};
        for (int[] one : none) {
            noIndex("neighbour(" + one[0] + ", " + one[1] + ")", () -> net.neighbour(one[0], one[1]));
        }
    }

    private static void neighbourOnLine() {
        PlaneNet net = with(4, 8, 0, 0, 3, 6, -1, -2);
        same("neighbours on a line", "[2]", neighbours(net, 0));
        same("neighbours on a line", "[2, 3]", neighbours(net, 1));
        same("neighbours on a line", "[0, 1]", neighbours(net, 2));
        same("neighbours on a line", "[1]", neighbours(net, 3));
        noIndex("neighbour on a line", () -> net.neighbour(0, 1));
        noIndex("neighbour on a line", () -> net.neighbour(1, 2));
        noIndex("neighbour on a line", () -> net.neighbour(1, -1));
        noIndex("neighbour of one alone", () -> with(5, 5).neighbour(0, 0));
        PlaneNet upright = with(7, 3, 7, 1, 7, 2);
        same("neighbours on an upright line", "[0, 1]", neighbours(upright, 2));
        same("neighbours on an upright line", "[2]", neighbours(upright, 0));
    }

    // ---- promise 8

    private static void corner() {
        same("corners of none", "[]", corners(new PlaneNet(3)));
        same("corners of one", "[0]", corners(with(3, 3)));
        same("corners of two", "[1, 0]", corners(with(3, 3, 3, 2)));
        same("corners of a line", "[3, 1]", corners(with(0, 0, 2, 4, 1, 2, -1, -2)));
        PlaneNet net = with(10, 10, 0, 10, 10, 0, 0, 0, 5, 5, 5, 0, 0, 5, 10, 5, 5, 10);
        same("corners of a square with points on its sides", "[3, 2, 0, 1]", corners(net));
        for (int value : new int[] {-1, 4, Integer.MIN_VALUE, Integer.MAX_VALUE}) {
            noIndex("corner(" + value + ")", () -> net.corner(value));
        }
        net.add(-5, 5);
        same("corners with one more", "[9, 3, 2, 0, 1]", corners(net));
        net.add(-REACH, -REACH);
        net.add(-REACH, REACH);
        net.add(REACH, 0);
        same("far corners", "[10, 12, 11]", corners(net));
    }

    // ---- promises 9 and 10

    private static void locate() {
        PlaneNet net = with(0, 0, 10, 0, 0, 10, 3, 3);
        same("on a point", "[3, 3, -1, -1]", where(net, 3, 3));
        same("between two inside", "[2, 0, 3, -1]", where(net, 1, 1));
        same("between two outer ones", "[2, 1, 2, -1]", where(net, 5, 5));
        same("between two outer ones", "[2, 0, 1, -1]", where(net, 1, 0));
        same("in a triangle", "[1, 0, 1, 3]", where(net, 2, 1));
        same("in a triangle", "[1, 0, 3, 2]", where(net, 1, 2));
        same("in a triangle", "[1, 1, 2, 3]", where(net, 4, 4));
        same("outside", "[0, -1, -1, -1]", where(net, 6, 5));
        same("outside, on the line of a side", "[0, -1, -1, -1]", where(net, 11, 0));
        same("far outside", "[0, -1, -1, -1]", where(net, -REACH, REACH));
        same("in none", "[0, -1, -1, -1]", where(new PlaneNet(7), 0, 0));
        for (int value : WRONG) {
            noArgument("locate(" + value + ", 0)", () -> net.locate(value, 0));
            noArgument("locate(0, " + value + ")", () -> net.locate(0, value));
        }
        PlaneNet far = with(-REACH, -REACH, REACH, -REACH, REACH, REACH, -REACH, REACH);
        same("in a far square", "[1, 0, 1, 2]", where(far, 1, 0));
        same("in a far square", "[1, 0, 2, 3]", where(far, 0, 1));
        same("between in a far square", "[2, 0, 2, -1]", where(far, 999999999, 999999999));
    }

    private static void locateOnLine() {
        PlaneNet net = with(0, 0, 30, 20, 15, 10);
        same("on a point of a line", "[3, 2, -1, -1]", where(net, 15, 10));
        same("between two on a line", "[2, 0, 2, -1]", where(net, 3, 2));
        same("between two on a line", "[2, 1, 2, -1]", where(net, 18, 12));
        same("on the line, outside", "[0, -1, -1, -1]", where(net, 33, 22));
        same("on the line, outside", "[0, -1, -1, -1]", where(net, -3, -2));
        same("beside the line", "[0, -1, -1, -1]", where(net, 3, 3));
        same("beside one alone", "[0, -1, -1, -1]", where(with(1, 1), 1, 2));
        same("between two", "[2, 0, 1, -1]", where(with(1, 9, 1, 2), 1, 3));
    }

    private static void located() {
        PlaneNet net = with(0, 0, 10, 0, 0, 10);
        same("located before", "-1 -1 -1", net.located(0) + " " + net.located(1) + " " + net.located(2));
        net.locate(1, 1);
        for (int value : new int[] {-1, 3, Integer.MIN_VALUE, Integer.MAX_VALUE}) {
            due("located(" + value + ")", NONE, net.located(value));
        }
        due("add of one that is there", NONE, net.add(10, 0));
        noArgument("add of a wrong one", () -> net.add(REACH + 1, 0));
        noArgument("locate of a wrong one", () -> net.locate(0, REACH + 1));
        net.nearest(50, 50);
        net.triangle(0, 0);
        net.count(2);
        due("located(1) as before", 1, net.located(1));
        net.add(20, 20);
        due("located(0) since a point came", NONE, net.located(0));
        due("located(1) since a point came", NONE, net.located(1));
        due("located(2) since a point came", NONE, net.located(2));
        net.locate(0, 0);
        due("located(0)", 0, net.located(0));
        net.locate(-5, -5);
        due("located(0) outside", NONE, net.located(0));
        net.locate(0, 0);
        net.clear();
        due("located(0) since all went", NONE, net.located(0));
        PlaneNet full = new PlaneNet(1);
        full.add(5, 5);
        full.locate(5, 5);
        noState("add when full", () -> full.add(6, 6));
        due("located(0) after an add that was refused", 0, full.located(0));
    }

    // ---- promises 11 and 12

    private static void nearest() {
        PlaneNet net = with(10, 0, 0, 10, -10, 0, 0, -10, 1, 1);
        due("nearest", 4, net.nearest(0, 0));
        due("nearest", 0, net.nearest(10, 0));
        due("nearest", 1, net.nearest(2, 9));
        due("nearest far away", 2, net.nearest(-REACH, 0));
        due("nearest, the lowest", 2, net.nearest(-REACH, -REACH));
        due("nearest, the lowest", 0, with(REACH, REACH, -REACH, -REACH).nearest(0, 0));
        due("nearest, at its farthest", 1, with(REACH, REACH, REACH, REACH - 1).nearest(-REACH, -REACH));
        for (int value : WRONG) {
            noArgument("nearest(" + value + ", 0)", () -> net.nearest(value, 0));
            noArgument("nearest(0, " + value + ")", () -> net.nearest(0, value));
            noArgument("wrong nearest in none", () -> new PlaneNet(5).nearest(value, 0));
        }
        noState("nearest in none", () -> new PlaneNet(5).nearest(0, 0));
    }

    private static void closest() {
        PlaneNet net = new PlaneNet(9);
        noState("closest in none", () -> net.closest(0));
        net.add(-REACH, -REACH);
        noState("closest of one", () -> net.closest(2));
        noIndex("wrong closest of one", () -> net.closest(3));
        net.add(REACH, REACH);
        closestIs(net, 8000000000000000000L, 0, 1);
        net.add(0, 0);
        closestIs(net, 2000000000000000000L, 0, 2);
        net.add(3, 0);
        closestIs(net, 9, 2, 3);
        net.add(0, 3);
        closestIs(net, 9, 2, 3);
        net.add(REACH, REACH - 3);
        closestIs(net, 9, 1, 5);
        net.add(-REACH + 3, -REACH);
        closestIs(net, 9, 0, 6);
        net.add(-REACH, -REACH + 3);
        closestIs(net, 9, 0, 6);
        net.add(1, 1);
        closestIs(net, 2, 2, 8);
        for (int value : new int[] {-1, 3, Integer.MIN_VALUE, Integer.MAX_VALUE}) {
            noIndex("closest(" + value + ")", () -> net.closest(value));
        }
    }

    private static void closestIs(PlaneNet net, long gap, int lower, int other) {
        due("closest(0)", gap, net.closest(0));
        due("closest(1)", lower, net.closest(1));
        due("closest(2)", other, net.closest(2));
    }

    // ---- promises 13 and 14

    private static void point() {
        PlaneNet net = with(-REACH, REACH, 3, 4);
        due("x", -REACH, net.point(0, 0));
        due("y", REACH, net.point(0, 1));
        due("x", 3, net.point(1, 0));
        due("y", 4, net.point(1, 1));
        int[][] none = {{-1, 0}, {2, 0}, {0, -1}, {0, 2}, {Integer.MIN_VALUE, 0}, {Integer.MAX_VALUE, 1}, {1, Integer.MAX_VALUE}};
        for (int[] one : none) {
            noIndex("point(" + one[0] + ", " + one[1] + ")", () -> net.point(one[0], one[1]));
        }
    }

    private static void count() {
        PlaneNet net = with(0, 0, 10, 0);
        same("counts of two", "2 0 2", net.count(0) + " " + net.count(1) + " " + net.count(2));
        net.add(5, 0);
        same("counts of a line", "3 0 2", net.count(0) + " " + net.count(1) + " " + net.count(2));
        net.add(5, 5);
        same("counts of four", "4 2 3", net.count(0) + " " + net.count(1) + " " + net.count(2));
        net.add(5, -50);
        same("counts of five", "5 4 4", net.count(0) + " " + net.count(1) + " " + net.count(2));
        for (int value : new int[] {-1, 3, Integer.MIN_VALUE, Integer.MAX_VALUE}) {
            due("count(" + value + ")", NONE, net.count(value));
        }
    }

    /** No call throws what the document does not tell, with any arguments in any state. */
    private static void allCallsAtOnce() {
        int[] values = {Integer.MIN_VALUE, -REACH - 1, -REACH, -2, -1, 0, 1, 2, 3, 4, REACH, REACH + 1, Integer.MAX_VALUE};
        for (int most = 0; most < 6; most++) {
            for (int a : values) {
                PlaneNet net = new PlaneNet(most);
                // On one line or bent; in the first round the object is full.
                for (int x = 0; x < most; x++) {
                    due("add to " + most, x, net.add(x, most % 2 == 0 ? x : x * x));
                }
                for (int round = 0; round < 3; round++) {
                    for (int b : values) {
                        callAll(net, a, b);
                    }
                    net.clear();
                }
            }
        }
    }

    private static void callAll(PlaneNet net, int a, int b) {
        Call[] calls = {() -> net.add(a, b), () -> net.find(a, b), () -> net.triangle(a, b), () -> net.neighbours(a),
            () -> net.neighbour(a, b), () -> net.corner(a), () -> net.locate(a, b), () -> net.located(a),
            () -> net.nearest(a, b), () -> net.closest(a), () -> net.point(a, b), () -> net.count(a)};
        for (int i = 0; i < calls.length; i++) {
            try {
                calls[i].answer();
            } catch (RuntimeException e) {
                Class<?> kind = e.getClass();
                due("call " + i + " threw one of the document's, not " + kind, 1,
                    kind == IllegalArgumentException.class || kind == IllegalStateException.class || kind == IndexOutOfBoundsException.class ? 1 : 0);
            }
        }
    }
}
