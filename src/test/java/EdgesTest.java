import java.util.ArrayList;
import java.util.Arrays;
import java.util.List;

/**
 * The document read sentence by sentence: each one that names a boundary case stands here in its own words, with the
 * runs of calls that would answer otherwise if it were broken. No object gets more than its 512 calls, but for one
 * test that cannot do without.
 *
 * A row is a call and its answer ("add 3 4 -> 0", "add 3 R+1 -> throws.IllegalArgumentException"). R is the greatest x
 * or y, L the least one. These rows stand for several calls:
 * "triangles -> 0 1 2, 0 2 3": all of them, and that there is none beside the first and the last;
 * "corners -> 0 1 2" and "round 0 -> 1 2" (the neighbours of 0): the same;
 * "where 3 4 -> 2 0 1 NONE": locate, and what located tells of 0, 1 and 2;
 * "pair -> 25 0 1": closest of 0, 1 and 2.
 */
public final class EdgesTest {
    private static final int CALLS = 512;
    private static final int SECONDS = 120;
    private static final int R = 1000000000;
    private static final String ARGUMENT = "throws.IllegalArgumentException";
    private static final String STATE = "throws.IllegalStateException";
    private static final String INDEX = "throws.IndexOutOfBoundsException";
    private static final String[] OUT_OF_REACH = {"MIN", "L-1", "R+1", "MAX"};
    private static final String[] PLACE_CALLS = {"add", "find", "locate", "nearest"};

    /** Twelve places on the circle of 5 about 0, 0, left round, beginning with the least. */
    private static final int[][] CIRCLE = {{-5, 0}, {-4, -3}, {-3, -4}, {0, -5}, {3, -4}, {4, -3}, {5, 0}, {4, 3}, {3, 4}, {0, 5}, {-3, 4},
        {-4, 3}};

    private static int wrong = 0;
    private static int asked = 0;
    private static volatile String sentence = "";

    public static void main(String[] args) {
        endAnyway();
        howManyCalls();
        numbers();
        whichPlaces();
        less();
        emptyCircles();
        oneStepOffFarCircle();
        pointsOnOneCircle();
        noTrianglesOnOneLine();
        orderOfTriangles();
        neighboursOnOneLine();
        corners();
        firstException();
        nothingThere();
        newObject();
        howManyPoints();
        moreCallsThanAnObjectIsUsedFor();
        add();
        clear();
        find();
        triangle();
        neighbours();
        neighbour();
        corner();
        locateInNet();
        locateWithoutNet();
        located();
        nearest();
        closest();
        point();
        count();
        refusedCallsChangeNothing();
        System.out.println(asked + " calls made, " + wrong + " answers not as due");
        if (wrong != 0) {
            System.exit(1);
        }
    }

    /** A call that never ends would keep all tests waiting. */
    private static void endAnyway() {
        Thread watch = new Thread(() -> {
            try {
                Thread.sleep(SECONDS * 1000L);
            } catch (InterruptedException e) {
                return;
            }
            System.out.println("'" + sentence + "': a call does not end");
            Runtime.getRuntime().halt(1);
        });
        watch.setDaemon(true);
        watch.start();
    }

    // ---- What it is

    private static void howManyCalls() {
        sentence("An object is used for at most 512 calls after it has been made");
        Told adds = new Told("1024");
        for (int i = 0; i < CALLS; i++) {
            adds.row("add " + i % 32 + " " + i / 32 + " -> " + i);
        }
        String[] lasts = {"count 0 -> 511", "count 1 -> 929", "count 2 -> 5", "corner 4 -> 480", "corner 2 -> 479", "find 30 15 -> 510",
            "triangle 928 2 -> 510", "neighbours 510 -> 4", "neighbour 510 0 -> 477", "locate 30 15 -> 3", "nearest R R -> 510",
            "closest 2 -> 1", "point 510 1 -> 15", "clear -> 511", "add 31 15 -> 511", "add 30 15 -> NONE"};
        for (String last : lasts) {
            Told told = new Told("1024");
            for (int i = 0; i < CALLS - 1; i++) {
                told.row("add " + i % 32 + " " + i / 32 + " -> " + i);
            }
            told.row(last);
        }
        sentence("An object is used for at most 512 calls after it has been made: all but two of them on one line");
        Told line = new Told("1024");
        for (int i = 0; i < CALLS - 2; i++) {
            line.row("add " + i + " 0 -> " + i);
        }
        line.rows("add 0 1 -> 510", "count 1 -> 509");
        sentence("An object is used for at most 512 calls after it has been made: all but one the same");
        allButOne("clear -> 0", "add 1 2 -> 0");
        allButOne("add R+1 0 -> " + ARGUMENT, "add 1 2 -> 0");
        allButOne("point 0 0 -> " + INDEX, "count 0 -> 0");
        allButOne("closest 0 -> " + STATE, "nearest 0 0 -> " + STATE);
        allButOne("locate 0 0 -> 0", "located 0 -> NONE");
        sentence("An object is used for at most 512 calls after it has been made: all points go again and again");
        Told again = new Told("3");
        for (int i = 0; i < CALLS / 4; i++) {
            again.rows("add 0 " + i + " -> 0", "add 1 0 -> 1", "add " + (2 + i) + " 1 -> 2", "clear -> 3");
        }
    }

    private static void allButOne(String row, String last) {
        Told told = new Told("1024");
        for (int i = 0; i < CALLS - 1; i++) {
            told.row(row);
        }
        told.row(last);
    }

    // ---- Terms

    private static void numbers() {
        sentence("POINTS have numbers 0, 1, .. in the order in which they come");
        run("4", "add 9 9 -> 0", "add 9 9 -> NONE", "add 1 1 -> 1", "add R+1 0 -> " + ARGUMENT, "add 5 0 -> 2", "add 0 L-1 -> " + ARGUMENT,
            "add 1 1 -> NONE", "add 0 5 -> 3", "add 7 7 -> " + STATE, "count 0 -> 4", "find 9 9 -> 0", "find 1 1 -> 1", "find 5 0 -> 2",
            "find 0 5 -> 3");
        sentence("no two are alike");
        String[] places = {"3 4", "3 5", "4 4", "4 3", "-3 4", "3 -4", "-3 -4", "-4 -3", "0 0", "0 1", "1 0", "R L", "L R", "R R", "L L",
            "0 R", "R 0", "R-1 R"};
        Told told = new Told("50");
        for (int i = 0; i < places.length; i++) {
            told.row("find " + places[i] + " -> NONE");
            told.row("add " + places[i] + " -> " + i);
            for (int j = 0; j <= i; j++) {
                told.row("add " + places[j] + " -> NONE");
            }
        }
        told.row("count 0 -> " + places.length);
    }

    private static void whichPlaces() {
        sentence("whole numbers x and y from -1000000000 to 1000000000");
        for (String edge : new String[] {"L L", "L R", "R L", "R R", "L 0", "R 0", "0 L", "0 R", "L+1 R-1", "R-1 L+1"}) {
            run("5", "find " + edge + " -> NONE", "locate " + edge + " -> 0", "nearest " + edge + " -> " + STATE, "add " + edge + " -> 0");
            run("5", "add " + edge + " -> 0", "find " + edge + " -> 0", "locate " + edge + " -> 3", "nearest " + edge + " -> 0");
            run("5", "add 0 5 -> 0", "find " + edge + " -> NONE", "locate " + edge + " -> 0", "nearest " + edge + " -> 0",
                "add " + edge + " -> 1");
        }
        sentence("IllegalArgumentException, when x or y is none of these (as for add())");
        for (String call : PLACE_CALLS) {
            for (String out : OUT_OF_REACH) {
                for (String[] points : new String[][] {{}, {"5 5"}, {"0 0", "9 0"}, {"0 0", "9 0", "0 9"}, {"L L", "R L", "R R", "L R"}}) {
                    Told told = new Told("4");
                    told.points(points);
                    told.rows(call + " " + out + " 0 -> " + ARGUMENT, call + " 0 " + out + " -> " + ARGUMENT,
                        call + " " + out + " R -> " + ARGUMENT,
                        call + " L " + out + " -> " + ARGUMENT, call + " " + out + " " + out + " -> " + ARGUMENT);
                    told.row("count 0 -> " + points.length);
                }
            }
        }
    }

    private static void less() {
        sentence("One is LESS than another, if its x is, or, of equal ones, its y");
        run("9", "add 5 0 -> 0", "add 5 -1 -> 1", "add 6 -9 -> 2", "corners -> 1 2 0");
        run("9", "add 0 0 -> 0", "add -1 R -> 1", "add 3 L -> 2", "corners -> 1 0 2");
        run("9", "add L R -> 0", "add L L -> 1", "add R R -> 2", "add R L -> 3", "corners -> 1 3 2 0");
        run("9", "add 7 3 -> 0", "add 7 9 -> 1", "add 7 -4 -> 2", "corners -> 2 1");
        run("9", "add -7 -3 -> 0", "add -9 99 -> 1", "corners -> 1 0");
        run("9", "add L R -> 0", "add R L -> 1", "corners -> 0 1");
        run("9", "add R L -> 0", "add L R -> 1", "corners -> 1 0");
    }

    private static void emptyCircles() {
        sentence("A CIRCLE through three points that are not on one line is EMPTY, if no point lies inside");
        // The fourth on the circle of the others, then a step inside, then a step outside.
        run("9", "add -5 0 -> 0", "add 0 -5 -> 1", "add 5 0 -> 2", "add 0 5 -> 3", "triangles -> 0 1 2, 0 2 3");
        run("9", "add 0 -5 -> 0", "add 5 0 -> 1", "add 0 5 -> 2", "add -5 0 -> 3", "triangles -> 0 1 3, 1 2 3");
        run("9", "add 0 -5 -> 0", "add 5 0 -> 1", "add 0 5 -> 2", "add -4 0 -> 3", "triangles -> 0 1 3, 1 2 3");
        run("9", "add 0 -5 -> 0", "add 5 0 -> 1", "add 0 5 -> 2", "add -6 0 -> 3", "triangles -> 0 1 2, 0 2 3");
        sentence("EMPTY, if no point lies inside: as far apart as may be, and one step inside or outside");
        run("9", "add L L -> 0", "add R L -> 1", "add R R -> 2", "add L R -> 3", "triangles -> 0 1 2, 0 2 3");
        run("9", "add L L -> 0", "add R L -> 1", "add R R -> 2", "add L+1 R -> 3", "triangles -> 0 1 3, 1 2 3");
        run("9", "add L L -> 0", "add R L+1 -> 1", "add R R -> 2", "add L R -> 3", "triangles -> 0 1 3, 1 2 3");
        run("9", "add L L -> 0", "add R L -> 1", "add R-1 R -> 2", "add L R -> 3", "triangles -> 0 1 2, 0 2 3");
        run("9", "add L+1 L -> 0", "add R L -> 1", "add R R -> 2", "add L R -> 3", "triangles -> 0 1 2, 0 2 3");
        run("9", "add L 0 -> 0", "add 0 L -> 1", "add R 0 -> 2", "add 0 R -> 3", "triangles -> 0 1 2, 0 2 3");
        run("9", "add L 0 -> 0", "add 0 L -> 1", "add R 0 -> 2", "add 0 R-1 -> 3", "triangles -> 0 1 3, 1 2 3");
        run("9", "add L+1 0 -> 0", "add 0 L -> 1", "add R 0 -> 2", "add 0 R -> 3", "triangles -> 0 1 2, 0 2 3");
        sentence("EMPTY, if no point lies inside: circles far greater than the plane that points are told in");
        run("9", "add L 0 -> 0", "add R 0 -> 1", "add 0 1 -> 2", "triangles -> 0 1 2", "add 0 -1 -> 3", "triangles -> 0 3 2, 1 2 3");
        run("9", "add L L -> 0", "add R R -> 1", "add 0 1 -> 2", "add 1 0 -> 3", "triangles -> 0 3 2, 1 2 3");
        run("9", "add L L -> 0", "add R R-1 -> 1", "add 0 0 -> 2", "add R R -> 3", "triangles -> 0 1 2, 1 3 2");
    }

    /** Of four that are nearly on one circle, the one moved inside is in both triangles, the one moved outside in one. */
    private static void oneStepOffFarCircle() {
        sentence("EMPTY, if no point lies inside: each of four far points, one step to each side");
        int size = 15384615;
        int[][] four = {{-63, -16}, {33, -56}, {60, 25}, {-39, 52}};
        for (int moved = 0; moved < 4; moved++) {
            for (int step = 0; step < 9; step++) {
                int stepX = step % 3 - 1;
                int stepY = step / 3 - 1;
                // The middle of the circle is at 0, 0.
                int outwards = four[moved][0] * stepX + four[moved][1] * stepY;
                Told told = new Told("4");
                for (int i = 0; i < 4; i++) {
                    int x = four[i][0] * size + (i == moved ? stepX : 0);
                    int y = four[i][1] * size + (i == moved ? stepY : 0);
                    told.row("add " + x + " " + y + " -> " + i);
                }
                // Unmoved, the least is in both, which is 0.
                boolean inBoth = step == 4 ? moved % 2 == 0 : outwards < 0;
                told.rows("neighbours " + moved + " -> " + (inBoth ? 3 : 2), "neighbours " + (moved + 1) % 4 + " -> " + (inBoth ? 2 : 3));
            }
        }
    }

    private static void pointsOnOneCircle() {
        sentence("The points on an empty circle, left round and beginning with the least: then m, p1, p2, and m, p2, p3, and so on, are TRIANGLES");
        run("9", "add 0 0 -> 0", "add 1 0 -> 1", "add 1 1 -> 2", "add 0 1 -> 3", "triangles -> 0 1 2, 0 2 3");
        run("9", "add 0 1 -> 0", "add 0 0 -> 1", "add 1 0 -> 2", "add 1 1 -> 3", "triangles -> 0 1 3, 1 2 3");
        run("9", "add 1 1 -> 0", "add 1 0 -> 1", "add 0 1 -> 2", "add 0 0 -> 3", "triangles -> 0 2 3, 0 3 1");
        int[][] square = {{0, 0}, {7, 0}, {7, 7}, {0, 7}};
        int[][] steep = {{-6, 3}, {-3, -6}, {6, -3}, {3, 6}};
        int[][] far = {{-R, -R}, {R, -R}, {R, R}, {-R, R}};
        int[][] sheer = {{-R, 0}, {0, -R}, {R, 0}, {0, R}};
        for (int[][] four : new int[][][] {square, steep, far, sheer}) {
            inEveryOrder(four);
        }
        for (int stride : new int[] {1, 5, 7, 11}) {
            for (int first = 0; first < CIRCLE.length; first++) {
                roundTheCircle(stride, first);
            }
        }
        sentence("The points on an empty circle: two circles with points on both");
        run("9", "add 0 0 -> 0", "add 1 0 -> 1", "add 2 0 -> 2", "add 0 1 -> 3", "add 1 1 -> 4", "add 2 1 -> 5",
            "triangles -> 0 1 4, 0 4 3, 1 2 5, 1 5 4");
        run("9", "add 2 1 -> 0", "add 1 1 -> 1", "add 0 1 -> 2", "add 2 0 -> 3", "add 1 0 -> 4", "add 0 0 -> 5",
            "triangles -> 0 1 4, 0 4 3, 1 2 5, 1 5 4");
        sentence("The points on an empty circle: one more inside it, and no circle of theirs is empty");
        Told told = new Told("99");
        for (int i = 0; i < CIRCLE.length; i++) {
            told.row("add " + CIRCLE[i][0] + " " + CIRCLE[i][1] + " -> " + i);
        }
        told.rows("neighbours 0 -> 11", "count 1 -> 10", "add 0 0 -> 12", "neighbours 12 -> 12", "count 1 -> 12", "round 0 -> 1 12 11",
            "round 12 -> 0 1 2 3 4 5 6 7 8 9 10 11");
    }

    /** Of four on a circle, left round from the least, the first and the third are in both triangles. */
    private static void inEveryOrder(int[][] four) {
        for (int order = 0; order < 256; order++) {
            int[] at = {order & 3, order >> 2 & 3, order >> 4 & 3, order >> 6 & 3};
            if (Arrays.stream(at).distinct().count() < 4) {
                continue;
            }
            Told told = new Told("4");
            for (int i = 0; i < 4; i++) {
                told.row("add " + four[at[i]][0] + " " + four[at[i]][1] + " -> " + i);
            }
            for (int i = 0; i < 4; i++) {
                told.row("neighbours " + i + " -> " + (at[i] % 2 == 0 ? 3 : 2));
            }
            told.row("count 1 -> 2");
        }
    }

    private static void roundTheCircle(int stride, int first) {
        int many = CIRCLE.length;
        int[] numberAt = new int[many];
        Told told = new Told("12");
        for (int i = 0; i < many; i++) {
            int at = (first + i * stride) % many;
            numberAt[at] = i;
            told.row("add " + CIRCLE[at][0] + " " + CIRCLE[at][1] + " -> " + i);
        }
        List<int[]> fan = new ArrayList<>();
        for (int at = 1; at + 1 < many; at++) {
            fan.add(lowestFirst(numberAt[0], numberAt[at], numberAt[at + 1]));
        }
        told.row("triangles -> " + inOrder(fan));
    }

    private static int[] lowestFirst(int a, int b, int c) {
        if (a < b && a < c) {
            return new int[] {a, b, c};
        }
        return b < c ? new int[] {b, c, a} : new int[] {c, a, b};
    }

    private static String inOrder(List<int[]> triangles) {
        triangles.sort(Arrays::compare);
        List<String> all = new ArrayList<>();
        for (int[] one : triangles) {
            all.add(one[0] + " " + one[1] + " " + one[2]);
        }
        return String.join(", ", all);
    }

    private static void noTrianglesOnOneLine() {
        sentence("(There are none, when all points are on one line.)");
        run("9", "count 1 -> 0", "triangles ->", "add 4 4 -> 0", "triangles ->", "add -4 9 -> 1", "triangles ->");
        String[][] lines = {{"0 0", "5 0", "9 0", "-3 0", "R 0", "L 0"}, {"7 0", "7 9", "7 5", "7 L", "7 R"}, {"0 0", "3 2", "-3 -2", "9 6",
            "6 4"},
            {"0 0", "-1 7", "1 -7", "3 -21"}, {"L L", "R R", "0 0", "1 1", "R-1 R-1"}, {"L R", "R L", "0 0", "L+1 R-1", "-1 1"}};
        for (String[] line : lines) {
            Told told = new Told("9");
            for (int i = 0; i < line.length; i++) {
                told.rows("add " + line[i] + " -> " + i, "triangles ->");
            }
        }
        sentence("(There are none, when all points are on one line.) One step beside it there is one");
        run("9", "add 0 0 -> 0", "add 1 1 -> 1", "add 2 2 -> 2", "triangles ->", "add 2 1 -> 3", "triangles -> 0 3 1, 1 3 2");
        run("9", "add L L -> 0", "add 0 0 -> 1", "add R R-1 -> 2", "triangles -> 0 2 1");
        run("9", "add L L -> 0", "add 0 0 -> 1", "add R-1 R -> 2", "triangles -> 0 1 2");
        run("9", "add L R -> 0", "add 0 0 -> 1", "add R L+1 -> 2", "triangles -> 0 1 2");
        run("9", "add L 0 -> 0", "add L+1 0 -> 1", "add R 1 -> 2", "triangles -> 0 1 2");
        run("9", "add L 0 -> 0", "add R 0 -> 1", "add 0 0 -> 2", "add 5 0 -> 3", "triangles ->", "add R -1 -> 4",
            "triangles -> 0 4 2, 1 3 4, 2 4 3");
        sentence("(There are none, when all points are on one line.) They go, and others are on one line again");
        run("9", "add 0 0 -> 0", "add 9 0 -> 1", "add 0 9 -> 2", "triangles -> 0 1 2", "clear -> 3", "triangles ->", "add 0 0 -> 0",
            "add 9 0 -> 1",
            "add 5 0 -> 2", "triangles ->", "round 2 -> 0 1", "corners -> 0 1", "where 4 0 -> 2 0 2 NONE", "add 5 5 -> 3",
            "triangles -> 0 2 3, 1 3 2");
    }

    private static void orderOfTriangles() {
        sentence("A triangle is told with its lowest number first, then left round");
        String[] places = {"0 0", "9 0", "0 9"};
        int[][] orders = {{0, 1, 2}, {0, 2, 1}, {1, 0, 2}, {1, 2, 0}, {2, 0, 1}, {2, 1, 0}};
        for (int k = 0; k < orders.length; k++) {
            Told told = new Told("3");
            told.points(places[orders[k][0]], places[orders[k][1]], places[orders[k][2]]);
            told.row("triangles -> " + (k == 0 || k == 3 || k == 4 ? "0 1 2" : "0 2 1"));
        }
        sentence("triangles are in the order of their first numbers, of equal ones of their second, then third");
        for (int stride : new int[] {1, 5, 7, 11}) {
            for (int middle : new int[] {0, 6, 12}) {
                roundTheMiddle(stride, middle);
            }
        }
    }

    /** Twelve triangles round a middle point that comes as the first, in between or as the last. */
    private static void roundTheMiddle(int stride, int middle) {
        int many = CIRCLE.length;
        int[] numberAt = new int[many];
        Told told = new Told("13");
        int number = 0;
        for (int i = 0; i <= many; i++) {
            if (i == middle) {
                told.row("add 0 0 -> " + number);
                number++;
            }
            if (i < many) {
                int at = (3 + i * stride) % many;
                told.row("add " + CIRCLE[at][0] + " " + CIRCLE[at][1] + " -> " + number);
                numberAt[at] = number;
                number++;
            }
        }
        List<int[]> fan = new ArrayList<>();
        for (int at = 0; at < many; at++) {
            fan.add(lowestFirst(middle, numberAt[at], numberAt[(at + 1) % many]));
        }
        told.row("triangles -> " + inOrder(fan));
    }

    private static void neighboursOnOneLine() {
        sentence("NEIGHBOURS are, when all points are on one line, two that have none between them");
        run("9", "add 0 0 -> 0", "round 0 ->", "add 6 4 -> 1", "round 0 -> 1", "round 1 -> 0", "add 3 2 -> 2", "round 0 -> 2",
            "round 1 -> 2", "round 2 -> 0 1",
            "add -3 -2 -> 3", "round 0 -> 2 3", "round 3 -> 0", "round 1 -> 2", "add 9 6 -> 4", "round 1 -> 2 4", "round 4 -> 1");
        run("9", "add 7 9 -> 0", "add 7 1 -> 1", "add 7 5 -> 2", "round 2 -> 0 1", "round 0 -> 2", "round 1 -> 2", "add 7 4 -> 3",
            "round 2 -> 0 3", "round 3 -> 1 2");
        run("9", "add R L -> 0", "add L R -> 1", "round 0 -> 1", "add 0 0 -> 2", "add R-1 L+1 -> 3", "round 0 -> 3", "round 1 -> 2",
            "round 2 -> 1 3", "round 3 -> 0 2");
        sentence("NEIGHBOURS are two points of one triangle: once one is beside the line, outer ones too");
        run("9", "add 0 0 -> 0", "add 4 0 -> 1", "add 2 0 -> 2", "round 0 -> 2", "add 2 9 -> 3", "round 0 -> 2 3", "round 1 -> 2 3",
            "round 2 -> 0 1 3", "round 3 -> 0 2 1");
    }

    private static void corners() {
        sentence("CORNERS are the points of which no three others have it within or on what they span");
        run("9", "add 0 0 -> 0", "add 9 0 -> 1", "add 0 9 -> 2", "corners -> 0 1 2", "add 3 3 -> 3", "corners -> 0 1 2", "add 1 1 -> 4",
            "corners -> 0 1 2");
        run("9", "add 1 0 -> 0", "add 2 9 -> 1", "add 0 9 -> 2", "corners -> 2 0 1", "add 1 9 -> 3", "corners -> 2 0 1", "add 1 10 -> 4",
            "corners -> 2 0 1 4");
        sentence("CORNERS: (nor two others, between which it would lie)");
        run("9", "add 0 0 -> 0", "add 8 0 -> 1", "add 8 8 -> 2", "add 0 8 -> 3", "add 4 0 -> 4", "add 8 4 -> 5", "add 4 8 -> 6",
            "add 0 4 -> 7", "add 0 1 -> 8",
            "corners -> 0 1 2 3");
        run("9", "add 0 4 -> 0", "add 0 8 -> 1", "add 5 5 -> 2", "corners -> 0 2 1", "add 0 0 -> 3", "corners -> 3 2 1");
        run("9", "add L L -> 0", "add R L -> 1", "add R R -> 2", "add 0 0 -> 3", "add R 0 -> 4", "corners -> 0 1 2", "add -1 0 -> 5",
            "corners -> 0 1 2 5");
        run("9", "add L L -> 0", "add R R-1 -> 1", "add R R -> 2", "add 0 0 -> 3", "corners -> 0 1 2");
        run("9", "add L L -> 0", "add R R-1 -> 1", "add 0 0 -> 2", "corners -> 0 1 2");
        sentence("they are told from the least, left round");
        run("9", "add 5 5 -> 0", "add -5 5 -> 1", "add 5 -5 -> 2", "add -5 -5 -> 3", "corners -> 3 2 0 1", "add -6 0 -> 4",
            "corners -> 4 3 2 0 1");
        sentence("of points on one line the two outer ones");
        run("9", "add 3 3 -> 0", "add 1 1 -> 1", "corners -> 1 0", "add 2 2 -> 2", "corners -> 1 0", "add 9 9 -> 3", "corners -> 1 3",
            "add -9 -9 -> 4", "corners -> 4 3");
        run("9", "add 7 2 -> 0", "add 7 1 -> 1", "add 7 3 -> 2", "corners -> 1 2");
        run("9", "add 2 7 -> 0", "add 1 7 -> 1", "add 3 7 -> 2", "corners -> 1 2");
        run("9", "add 0 0 -> 0", "add R L -> 1", "add L R -> 2", "corners -> 2 1");
        sentence("one alone is one");
        run("9", "add 0 0 -> 0", "corners -> 0");
        run("9", "add L L -> 0", "corners -> 0", "clear -> 1", "corners ->", "add R R -> 0", "corners -> 0");
        sentence("CORNERS, when there are no points");
        run("9", "corners ->");
    }

    private static void firstException() {
        sentence("Of several exceptions the first one told is thrown: add()");
        for (String out : OUT_OF_REACH) {
            run("1", "add 0 0 -> 0", "add 1 1 -> " + STATE, "add " + out + " 0 -> " + ARGUMENT, "add 0 " + out + " -> " + ARGUMENT);
            run("3", "add 0 0 -> 0", "add 1 1 -> 1", "add 1 0 -> 2", "add " + out + " 0 -> " + ARGUMENT,
                "add 0 " + out + " -> " + ARGUMENT);
        }
        sentence("Of several exceptions the first one told is thrown: nearest()");
        for (String out : OUT_OF_REACH) {
            run("5", "nearest 0 0 -> " + STATE, "nearest " + out + " 0 -> " + ARGUMENT, "nearest 0 " + out + " -> " + ARGUMENT,
                "add 0 0 -> 0", "clear -> 1",
                "nearest " + out + " 0 -> " + ARGUMENT);
        }
        sentence("Of several exceptions the first one told is thrown: closest()");
        for (String what : new String[] {"-1", "3", "MIN", "MAX"}) {
            run("5", "closest " + what + " -> " + INDEX, "add 0 0 -> 0", "closest " + what + " -> " + INDEX, "add 0 1 -> 1",
                "closest " + what + " -> " + INDEX,
                "clear -> 2", "closest " + what + " -> " + INDEX);
        }
    }

    private static void nothingThere() {
        sentence("`NONE = -1`: Nothing there");
        due("NONE", "-1", Integer.toString(PlaneNet.NONE));
        run("3", "find 0 0 -> -1", "located 0 -> -1", "count 3 -> -1", "add 0 0 -> 0", "add 0 0 -> -1");
    }

    // ---- Promise 1

    private static void newObject() {
        sentence("No points");
        for (String most : new String[] {"MIN", "-1", "0", "1", "2", "512", "1023", "1024", "1025", "MAX"}) {
            Told told = new Told(most);
            told.rows("count 0 -> 0", "count 1 -> 0", "count 2 -> 0", "find 0 0 -> NONE", "triangle 0 0 -> " + INDEX,
                "neighbours 0 -> " + INDEX);
            told.rows("neighbour 0 0 -> " + INDEX, "corner 0 -> " + INDEX, "where 0 0 -> 0 NONE NONE NONE", "nearest 0 0 -> " + STATE);
            told.rows("closest 0 -> " + STATE, "closest 1 -> " + STATE, "closest 2 -> " + STATE, "point 0 0 -> " + INDEX, "clear -> 0");
        }
        sentence("No points: another object's are not its own");
        Told one = new Told("5");
        Told other = new Told("5");
        one.rows("add 0 0 -> 0", "add 9 0 -> 1", "add 0 9 -> 2", "where 1 1 -> 1 0 1 2");
        other.rows("count 0 -> 0", "find 0 0 -> NONE", "located 0 -> NONE", "add 1 1 -> 0", "add 5 1 -> 1", "corners -> 0 1", "clear -> 2");
        one.rows("count 0 -> 3", "located 2 -> 2", "triangles -> 0 1 2", "corners -> 0 1 2", "pair -> 81 0 1");
    }

    private static void howManyPoints() {
        sentence("there may be so many (1 .. 1024)");
        for (int most : new int[] {1, 2, 3, 4, 31, 32, 33, 64, 65, 510, 511}) {
            for (int side : new int[] {1, 17, CALLS}) {
                fill(Integer.toString(most), most, side);
            }
        }
        // As many as come in 512 calls.
        for (String most : new String[] {"512", "513", "1023", "1024"}) {
            take(most);
        }
        sentence("there may be so many (others as the nearest of these): too few");
        for (String most : new String[] {"0", "-1", "-2", "-1024", "L", "MIN"}) {
            fill(most, 1, 1);
        }
        sentence("there may be so many (others as the nearest of these): too many");
        for (String most : new String[] {"1025", "1026", "2048", "R", "MAX"}) {
            take(most);
        }
    }

    /** The greatest of the range, and one beside it: no 512 calls tell them, but the class keeps to them all the same. */
    private static void moreCallsThanAnObjectIsUsedFor() {
        sentence("there may be so many (1 .. 1024; others as the nearest of these): the greatest and those beside it");
        int[][] mosts = {{1023, 1023}, {1024, 1024}, {1025, 1024}, {Integer.MAX_VALUE, 1024}};
        for (int[] most : mosts) {
            PlaneNet net = new PlaneNet(most[0]);
            for (int i = 0; i < most[1]; i++) {
                due("add to " + most[0], "" + i, "" + net.add(i % 29, i / 29));
            }
            String answer = "nothing";
            try {
                net.add(-1, 5);
            } catch (IllegalStateException e) {
                answer = STATE;
            }
            due("add of one too many to " + most[0], STATE, answer);
        }
    }

    /** In rows of so many: 1 or all are on one line. */
    private static void fill(String most, int many, int side) {
        Told told = new Told(most);
        for (int i = 0; i < many; i++) {
            told.row("add " + i % side + " " + i / side + " -> " + i);
        }
        told.row("add -1 5 -> " + STATE);
    }

    private static void take(String most) {
        Told told = new Told(most);
        for (int i = 0; i < CALLS; i++) {
            told.row("add " + i % 23 + " " + i / 23 + " -> " + i);
        }
    }

    // ---- Promise 2

    private static void add() {
        sentence("A point more: its number; NONE, when there is one there");
        run("9", "add 4 5 -> 0", "add 4 5 -> NONE", "add 5 4 -> 1", "add 5 4 -> NONE", "add 4 5 -> NONE", "add 4 4 -> 2", "add 4 4 -> NONE",
            "count 0 -> 3");
        sentence("IllegalStateException, when there are as many as may be (and none there)");
        run("1", "add 4 5 -> 0", "add 4 5 -> NONE", "add 5 4 -> " + STATE, "add 4 5 -> NONE", "add 4 6 -> " + STATE, "count 0 -> 1");
        run("2", "add L L -> 0", "add L L -> NONE", "add R R -> 1", "add 0 0 -> " + STATE, "add L L -> NONE", "add R R -> NONE",
            "count 0 -> 2");
        run("3", "add 0 0 -> 0", "add 8 0 -> 1", "add 0 8 -> 2", "add 1 1 -> " + STATE, "add 4 0 -> " + STATE, "add 9 9 -> " + STATE,
            "add 0 0 -> NONE",
            "add 8 0 -> NONE", "add 0 8 -> NONE", "count 0 -> 3", "clear -> 3", "add 1 1 -> 0");
        run("3", "add 0 0 -> 0", "add 8 0 -> 1", "add 4 0 -> 2", "add 5 0 -> " + STATE, "add 4 1 -> " + STATE, "add 4 0 -> NONE",
            "triangles ->");
        sentence("A point more: wherever it lies, inside, on a side, on the line of a side, outside");
        run("9", "add 0 0 -> 0", "add 8 0 -> 1", "add 0 8 -> 2", "add 2 2 -> 3", "triangles -> 0 1 3, 0 3 2, 1 2 3");
        run("9", "add 0 0 -> 0", "add 8 0 -> 1", "add 0 8 -> 2", "add 4 4 -> 3", "triangles -> 0 1 3, 0 3 2");
        run("9", "add 0 0 -> 0", "add 8 0 -> 1", "add 0 8 -> 2", "add 9 0 -> 3", "triangles -> 0 1 2, 1 3 2");
        run("9", "add 0 0 -> 0", "add 8 0 -> 1", "add 0 8 -> 2", "add -1 0 -> 3", "triangles -> 0 1 2, 0 2 3");
        run("9", "add 0 0 -> 0", "add 8 0 -> 1", "add 0 8 -> 2", "add 20 1 -> 3", "triangles -> 0 1 2, 1 3 2");
        run("9", "add 0 0 -> 0", "add 8 0 -> 1", "add 0 8 -> 2", "add -20 -21 -> 3", "triangles -> 0 1 2, 0 2 3, 0 3 1");
    }

    // ---- Promise 3

    private static void clear() {
        sentence("No points: how many there were");
        run("9", "clear -> 0", "clear -> 0", "add 0 0 -> 0", "clear -> 1", "clear -> 0");
        run("3", "add 0 0 -> 0", "add 9 0 -> 1", "clear -> 2", "add 0 0 -> 0", "add 9 0 -> 1", "add 0 9 -> 2", "add 5 5 -> " + STATE,
            "clear -> 3", "clear -> 0");
        Told told = new Told("20");
        told.points("0 0", "9 0", "0 9", "9 9", "4 5");
        told.rows("add 4 5 -> NONE", "add 0 R+1 -> " + ARGUMENT, "clear -> 5", "count 0 -> 0", "count 1 -> 0", "count 2 -> 0",
            "find 0 0 -> NONE", "find 4 5 -> NONE");
        told.rows("triangle 0 0 -> " + INDEX, "neighbours 0 -> " + INDEX, "neighbour 0 0 -> " + INDEX, "corner 0 -> " + INDEX,
            "where 0 0 -> 0 NONE NONE NONE");
        told.rows("nearest 0 0 -> " + STATE, "closest 0 -> " + STATE, "closest 1 -> " + STATE, "closest 2 -> " + STATE,
            "point 0 0 -> " + INDEX);
        sentence("No points: those that come after are the first again");
        told.rows("add 30 0 -> 0", "closest 0 -> " + STATE, "round 0 ->", "corners -> 0", "add 0 0 -> 1", "pair -> 900 0 1",
            "add 0 40 -> 2", "triangles -> 0 2 1");
        told.rows("corners -> 1 0 2", "round 0 -> 1 2", "round 1 -> 0 2", "round 2 -> 0 1", "find 9 0 -> NONE", "point 0 0 -> 30",
            "point 1 0 -> 0", "nearest 9 9 -> 1");
        sentence("No points: and there may be as many as before");
        run("2", "add 0 0 -> 0", "add 9 0 -> 1", "clear -> 2", "add 1 0 -> 0", "add 2 0 -> 1", "add 3 0 -> " + STATE, "clear -> 2",
            "add 3 0 -> 0", "add 4 0 -> 1",
            "add 5 0 -> " + STATE);
        run("1", "add 0 0 -> 0", "clear -> 1", "add 1 0 -> 0", "add 2 0 -> " + STATE);
    }

    // ---- Promise 4

    private static void find() {
        sentence("The number of the point there; NONE without");
        run("9", "find 0 0 -> NONE", "add 0 0 -> 0", "find 0 0 -> 0", "find 0 1 -> NONE", "find 1 0 -> NONE", "find 0 -1 -> NONE",
            "find -1 0 -> NONE");
        run("9", "add L L -> 0", "add R R -> 1", "add L R -> 2", "add R L -> 3", "find L L -> 0", "find R R -> 1", "find L R -> 2",
            "find R L -> 3",
            "find L+1 L -> NONE", "find R R-1 -> NONE", "find 0 0 -> NONE", "clear -> 4", "find L L -> NONE");
        run("2", "add 3 4 -> 0", "add 5 6 -> 1", "add 7 8 -> " + STATE, "find 7 8 -> NONE", "find 5 6 -> 1", "add 3 4 -> NONE",
            "find 3 4 -> 0");
    }

    // ---- Promise 5

    private static void triangle() {
        sentence("Of the k-th triangle point what (0 .. 2)");
        run("9", "add 0 0 -> 0", "add 9 0 -> 1", "add 0 9 -> 2", "triangle 0 0 -> 0", "triangle 0 1 -> 1", "triangle 0 2 -> 2");
        run("9", "add 0 0 -> 0", "add 9 0 -> 1", "add 9 9 -> 2", "add 0 8 -> 3", "triangle 0 0 -> 0", "triangle 0 1 -> 1",
            "triangle 0 2 -> 3", "triangle 1 0 -> 1",
            "triangle 1 1 -> 2", "triangle 1 2 -> 3");
        sentence("IndexOutOfBoundsException, when there is no such triangle or what");
        for (String[] points : new String[][] {{}, {"0 0"}, {"0 0", "9 0"}, {"0 0", "9 0", "5 0"}}) {
            Told told = new Told("9");
            told.points(points);
            for (int what = -1; what <= 3; what++) {
                told.rows("triangle 0 " + what + " -> " + INDEX, "triangle -1 " + what + " -> " + INDEX,
                    "triangle 1 " + what + " -> " + INDEX);
            }
        }
        Told told = new Told("9");
        told.points("0 0", "9 0", "9 9", "0 8");
        for (String what : new String[] {"-1", "3", "MIN", "MAX", "4", "-2"}) {
            told.rows("triangle 0 " + what + " -> " + INDEX, "triangle 1 " + what + " -> " + INDEX, "triangle 2 " + what + " -> " + INDEX);
        }
        for (String k : new String[] {"-1", "2", "3", "MIN", "MAX"}) {
            told.rows("triangle " + k + " 0 -> " + INDEX, "triangle " + k + " 1 -> " + INDEX, "triangle " + k + " 2 -> " + INDEX);
        }
        told.rows("triangle 0 0 -> 0", "triangle 1 2 -> 3", "clear -> 4", "triangle 0 0 -> " + INDEX);
    }

    // ---- Promise 6

    private static void neighbours() {
        sentence("How many neighbours a point has");
        run("9", "add 0 0 -> 0", "neighbours 0 -> 0", "add 9 0 -> 1", "neighbours 0 -> 1", "neighbours 1 -> 1", "add 5 0 -> 2",
            "neighbours 0 -> 1", "neighbours 1 -> 1",
            "neighbours 2 -> 2", "add 5 5 -> 3", "neighbours 0 -> 2", "neighbours 1 -> 2", "neighbours 2 -> 3", "neighbours 3 -> 3");
        sentence("IndexOutOfBoundsException, when there is no such point");
        for (String[] points : new String[][] {{}, {"0 0"}, {"0 0", "9 0"}, {"0 0", "9 0", "5 0"}, {"0 0", "9 0", "0 9", "2 2"}}) {
            Told told = new Told("9");
            told.points(points);
            noSuchPoint(told, "neighbours", "", points.length);
            told.row("clear -> " + points.length);
            noSuchPoint(told, "neighbours", "", 0);
        }
    }

    private static void noSuchPoint(Told told, String call, String rest, int many) {
        for (String number : new String[] {"-1", "" + many, "" + (many + 1), "1023", "1024", "1025", "MIN", "MAX"}) {
            told.row(call + " " + number + rest + " -> " + INDEX);
        }
    }

    // ---- Promise 7

    private static void neighbour() {
        sentence("The k-th neighbour of a point, from the one with the lowest number on, left round it");
        // Round a middle point, whose lowest neighbour is at every place once.
        for (int first = 0; first < CIRCLE.length; first++) {
            Told told = new Told("13");
            List<String> round = new ArrayList<>();
            for (int i = 0; i < CIRCLE.length; i++) {
                int[] at = CIRCLE[(first + i) % CIRCLE.length];
                told.row("add " + at[0] + " " + at[1] + " -> " + i);
                round.add("" + i);
            }
            told.rows("add 0 0 -> 12", "round 12 -> " + String.join(" ", round));
        }
        sentence("left round it (through the outside, too)");
        run("9", "add 0 0 -> 0", "add 9 0 -> 1", "add 0 9 -> 2", "add 3 3 -> 3", "round 0 -> 1 3 2", "round 1 -> 0 2 3", "round 2 -> 0 3 1",
            "round 3 -> 0 1 2");
        run("9", "add 0 0 -> 0", "add 0 9 -> 1", "add 9 0 -> 2", "round 0 -> 1 2", "round 1 -> 0 2", "round 2 -> 0 1");
        // The lowest one stands before, in the midst of, and behind the gap that is the outside.
        run("9", "add 0 9 -> 0", "add -9 0 -> 1", "add 9 0 -> 2", "add 0 0 -> 3", "round 3 -> 0 1 2", "round 0 -> 1 3 2", "round 1 -> 0 3",
            "round 2 -> 0 3");
        run("9", "add -9 0 -> 0", "add 9 0 -> 1", "add 0 9 -> 2", "add 0 0 -> 3", "round 3 -> 0 1 2");
        run("9", "add 9 0 -> 0", "add 0 9 -> 1", "add -9 0 -> 2", "add 0 0 -> 3", "round 3 -> 0 1 2");
        run("9", "add 9 0 -> 0", "add -9 0 -> 1", "add 0 9 -> 2", "add 0 0 -> 3", "round 3 -> 0 2 1");
        sentence("The k-th neighbour of a point, on one line");
        run("9", "add 5 5 -> 0", "add 1 1 -> 1", "add 3 3 -> 2", "neighbour 2 0 -> 0", "neighbour 2 1 -> 1", "neighbour 0 0 -> 2",
            "neighbour 1 0 -> 2");
        run("9", "add 1 1 -> 0", "add 5 5 -> 1", "add 3 3 -> 2", "neighbour 2 0 -> 0", "neighbour 2 1 -> 1");
        sentence("IndexOutOfBoundsException, when there is no such point or neighbour");
        for (String[] points : new String[][] {{}, {"0 0"}, {"0 0", "9 0"}, {"0 0", "9 0", "5 0"}, {"0 0", "9 0", "0 9", "2 2"}}) {
            Told told = new Told("9");
            told.points(points);
            noSuchPoint(told, "neighbour", " 0", points.length);
            noSuchPoint(told, "neighbour", " -1", points.length);
            for (int i = 0; i < points.length; i++) {
                int many = points.length == 4 ? 3 : points.length == 3 && i == 2 ? 2 : points.length == 1 ? 0 : 1;
                for (String k : new String[] {"-1", "" + many, "" + (many + 1), "MIN", "MAX"}) {
                    told.row("neighbour " + i + " " + k + " -> " + INDEX);
                }
            }
        }
    }

    // ---- Promise 8

    private static void corner() {
        sentence("The k-th corner. IndexOutOfBoundsException, when there is none");
        String[][] all = {{}, {"0 0"}, {"0 0", "9 0"}, {"0 0", "9 0", "5 0"}, {"0 0", "9 0", "0 9"}, {"0 0", "9 0", "0 9", "2 2"}, {"0 0",
            "9 0", "0 9", "5 0"}, {"0 0", "9 0", "0 9", "9 9"}};
        int[] many = {0, 1, 2, 2, 3, 3, 3, 4};
        for (int i = 0; i < all.length; i++) {
            Told told = new Told("9");
            told.points(all[i]);
            told.row("count 2 -> " + many[i]);
            for (String k : new String[] {"-1", "" + many[i], "" + (many[i] + 1), "1024", "MIN", "MAX"}) {
                told.row("corner " + k + " -> " + INDEX);
            }
            if (many[i] > 0) {
                told.rows("corner 0 -> 0", "corner " + (many[i] - 1) + " -> " + new int[] {0, 1, 2, 2}[many[i] - 1]);
            }
            told.rows("clear -> " + all[i].length, "corner 0 -> " + INDEX);
        }
    }

    // ---- Promise 9

    private static void locateInNet() {
        sentence("Where a place lies: 3 on a point");
        String[] net = {"0 0", "12 0", "0 12", "4 4", "6 0"};
        Told told = new Told("9");
        told.points(net);
        told.rows("triangles -> 0 3 2, 0 4 3, 1 2 3, 1 3 4");
        for (int i = 0; i < net.length; i++) {
            told.row("where " + net[i] + " -> 3 " + i + " NONE NONE");
        }
        sentence("2 between two neighbours, on the line from one to the other");
        told.rows("where 1 1 -> 2 0 3 NONE", "where 3 3 -> 2 0 3 NONE", "where 1 0 -> 2 0 4 NONE", "where 5 0 -> 2 0 4 NONE",
            "where 7 0 -> 2 1 4 NONE");
        told.rows("where 11 0 -> 2 1 4 NONE", "where 0 1 -> 2 0 2 NONE", "where 0 11 -> 2 0 2 NONE", "where 1 11 -> 2 1 2 NONE",
            "where 11 1 -> 2 1 2 NONE");
        told.rows("where 5 2 -> 2 3 4 NONE", "where 8 2 -> 2 1 3 NONE", "where 2 8 -> 2 2 3 NONE");
        sentence("1 inside a triangle");
        told.rows("where 2 1 -> 1 0 4 3", "where 4 3 -> 1 0 4 3", "where 5 1 -> 1 0 4 3", "where 1 2 -> 1 0 3 2", "where 5 5 -> 1 1 2 3",
            "where 6 1 -> 1 1 3 4");
        told.rows("where 9 1 -> 1 1 3 4", "where 2 9 -> 1 1 2 3");
        sentence("0 outside");
        told.rows("where 6 7 -> 0 NONE NONE NONE", "where 13 0 -> 0 NONE NONE NONE", "where -1 0 -> 0 NONE NONE NONE",
            "where 0 13 -> 0 NONE NONE NONE");
        told.rows("where 0 -1 -> 0 NONE NONE NONE", "where 6 -1 -> 0 NONE NONE NONE", "where 13 -1 -> 0 NONE NONE NONE",
            "where -1 13 -> 0 NONE NONE NONE");
        told.rows("where L L -> 0 NONE NONE NONE", "where R R -> 0 NONE NONE NONE", "where L R -> 0 NONE NONE NONE",
            "where R 0 -> 0 NONE NONE NONE");
        sentence("between two neighbours: two that are none have nothing between them");
        run("9", "add 0 0 -> 0", "add 8 0 -> 1", "add 8 8 -> 2", "add 0 8 -> 3", "where 4 4 -> 2 0 2 NONE", "where 3 5 -> 1 0 2 3",
            "where 5 3 -> 1 0 1 2", "where 1 7 -> 1 0 2 3",
            "where 7 1 -> 1 0 1 2", "where 3 3 -> 2 0 2 NONE");
        sentence("Where a place lies: as far apart as may be");
        Told far = new Told("9");
        far.points("L L", "R L", "R R");
        far.rows("where 0 0 -> 2 0 2 NONE", "where R-1 R-1 -> 2 0 2 NONE", "where L+1 L+1 -> 2 0 2 NONE", "where R-1 R -> 0 NONE NONE NONE",
            "where L L+1 -> 0 NONE NONE NONE");
        far.rows("where 0 1 -> 0 NONE NONE NONE", "where 1 0 -> 1 0 1 2", "where R R-1 -> 2 1 2 NONE", "where R-1 R-2 -> 1 0 1 2",
            "where L+1 L -> 2 0 1 NONE");
        far.rows("where R-1 L -> 2 0 1 NONE", "where R-1 L+1 -> 1 0 1 2", "where L R -> 0 NONE NONE NONE", "where R L -> 3 1 NONE NONE");
        run("9", "add L L -> 0", "add R R-1 -> 1", "add L L+1 -> 2", "where 0 0 -> 2 1 2 NONE", "where 1 1 -> 0 NONE NONE NONE",
            "where -1 -1 -> 1 0 1 2", "where R R -> 0 NONE NONE NONE");
    }

    private static void locateWithoutNet() {
        sentence("Where a place lies: without points, with one");
        run("9", "where 0 0 -> 0 NONE NONE NONE", "where R L -> 0 NONE NONE NONE");
        run("9", "add 4 5 -> 0", "where 4 5 -> 3 0 NONE NONE", "where 4 6 -> 0 NONE NONE NONE", "where 3 5 -> 0 NONE NONE NONE",
            "where 0 0 -> 0 NONE NONE NONE", "where L R -> 0 NONE NONE NONE");
        sentence("Where a place lies: all points on one line");
        for (int[] way : new int[][] {{1, 0}, {0, 1}, {1, 1}, {1, -1}, {2, 3}, {-3, 1}}) {
            onLine(way[0], way[1], -way[1], way[0]);
        }
        sentence("Where a place lies: all points on one line, as far apart as may be");
        run("9", "add R R -> 0", "add L L -> 1", "where 0 0 -> 2 0 1 NONE", "where R-1 R-1 -> 2 0 1 NONE", "where L+1 L+1 -> 2 0 1 NONE",
            "where 0 1 -> 0 NONE NONE NONE",
            "where R R-1 -> 0 NONE NONE NONE", "where L L+1 -> 0 NONE NONE NONE", "where R R -> 3 0 NONE NONE",
            "where L R -> 0 NONE NONE NONE");
        run("9", "add L R -> 0", "add R L -> 1", "add 0 0 -> 2", "where 1 -1 -> 2 1 2 NONE", "where -1 1 -> 2 0 2 NONE",
            "where 1 0 -> 0 NONE NONE NONE", "where L+1 R-1 -> 2 0 2 NONE");
        run("9", "add L L -> 0", "add R R-1 -> 1", "where 0 0 -> 0 NONE NONE NONE", "where 0 -1 -> 0 NONE NONE NONE",
            "where R-1 R-2 -> 0 NONE NONE NONE");
        run("9", "add L 7 -> 0", "add R 7 -> 1", "where 0 7 -> 2 0 1 NONE", "where 0 8 -> 0 NONE NONE NONE", "where R-1 7 -> 2 0 1 NONE");
    }

    /** Points at 0, 8 and 4 steps along a way; asked on it and beside it. */
    private static void onLine(int x, int y, int besideX, int besideY) {
        int[] pointAt = {0, 8, 4};
        Told told = new Told("9");
        for (int i = 0; i < pointAt.length; i++) {
            told.row("add " + pointAt[i] * x + " " + pointAt[i] * y + " -> " + i);
        }
        for (int at = -2; at <= 10; at++) {
            String due = at < 0 || at > 8 ? "0 NONE NONE NONE" : at < 4 ? "2 0 2 NONE" : "2 1 2 NONE";
            if (at == 0 || at == 4 || at == 8) {
                due = "3 " + (at == 0 ? 0 : at == 8 ? 1 : 2) + " NONE NONE";
            }
            told.row("where " + at * x + " " + at * y + " -> " + due);
            told.row("where " + (at * x + besideX) + " " + (at * y + besideY) + " -> 0 NONE NONE NONE");
            told.row("where " + (at * x - besideX) + " " + (at * y - besideY) + " -> 0 NONE NONE NONE");
        }
    }

    // ---- Promise 10

    private static void located() {
        sentence("The points that the latest locate() found: before any");
        run("9", "located 0 -> NONE", "located 1 -> NONE", "located 2 -> NONE", "add 0 0 -> 0", "located 0 -> NONE", "add 9 0 -> 1",
            "add 0 9 -> 2", "located 0 -> NONE",
            "located 1 -> NONE", "located 2 -> NONE");
        sentence("The points that the latest locate() found: each one's own, not an earlier one's");
        String[] net = {"0 0", "9 0", "0 9"};
        String[] wheres = {"where 1 1 -> 1 0 1 2", "where 4 5 -> 2 1 2 NONE", "where 9 0 -> 3 1 NONE NONE",
            "where 9 9 -> 0 NONE NONE NONE"};
        for (String before : wheres) {
            for (String after : wheres) {
                Told told = new Told("9");
                told.points(net);
                told.rows(before, after);
            }
        }
        sentence("of a triangle as it is told (0, 1, 2), of two neighbours the lower number (0) and the other (1), the point (0)");
        run("9", "add 9 0 -> 0", "add 0 9 -> 1", "add 0 0 -> 2", "where 1 1 -> 1 0 1 2", "where 1 0 -> 2 0 2 NONE",
            "where 0 1 -> 2 1 2 NONE", "where 0 0 -> 3 2 NONE NONE");
        run("9", "add 0 9 -> 0", "add 9 0 -> 1", "add 0 0 -> 2", "where 1 1 -> 1 0 2 1", "where 1 0 -> 2 1 2 NONE",
            "where 4 5 -> 2 0 1 NONE", "where 9 0 -> 3 1 NONE NONE");
        sentence("NONE for all others");
        for (String what : new String[] {"-1", "3", "4", "-2", "MIN", "MAX"}) {
            run("9", "located " + what + " -> NONE", "add 0 0 -> 0", "add 9 0 -> 1", "add 0 9 -> 2", "where 1 1 -> 1 0 1 2",
                "located " + what + " -> NONE", "where 1 0 -> 2 0 1 NONE",
                "located " + what + " -> NONE", "where 0 9 -> 3 2 NONE NONE", "located " + what + " -> NONE",
                "where -1 0 -> 0 NONE NONE NONE", "located " + what + " -> NONE");
        }
        sentence("NONE for all others, also when a point came since");
        for (String where : wheres) {
            for (String place : new String[] {"1 1", "2 2", "4 5", "5 0", "9 9", "-9 -9", "R L"}) {
                run("9", "add 0 0 -> 0", "add 9 0 -> 1", "add 0 9 -> 2", where, "add " + place + " -> 3", "located 0 -> NONE",
                    "located 1 -> NONE", "located 2 -> NONE");
            }
        }
        run("9", "add 0 0 -> 0", "where 0 0 -> 3 0 NONE NONE", "add 9 9 -> 1", "located 0 -> NONE", "where 4 4 -> 2 0 1 NONE",
            "add 20 20 -> 2", "located 0 -> NONE", "located 1 -> NONE",
            "where 4 4 -> 2 0 1 NONE", "add 9 0 -> 3", "located 0 -> NONE", "located 1 -> NONE");
        sentence("NONE for all others, also when all went since");
        for (String where : wheres) {
            run("9", "add 0 0 -> 0", "add 9 0 -> 1", "add 0 9 -> 2", where, "clear -> 3", "located 0 -> NONE", "located 1 -> NONE",
                "located 2 -> NONE", "add 0 0 -> 0", "located 0 -> NONE");
        }
        run("9", "add 0 0 -> 0", "where 0 0 -> 3 0 NONE NONE", "clear -> 1", "located 0 -> NONE");
        run("9", "add 0 0 -> 0", "add 9 9 -> 1", "where 4 4 -> 2 0 1 NONE", "clear -> 2", "located 0 -> NONE", "located 1 -> NONE");
    }

    // ---- Promise 11

    private static void nearest() {
        sentence("The point that is nearest to a place, of equally near ones the lowest number");
        run("9", "add 5 5 -> 0", "nearest 5 5 -> 0", "nearest L R -> 0", "add 7 5 -> 1", "nearest 6 5 -> 0", "nearest 6 R -> 0",
            "nearest 7 5 -> 1", "nearest 5 5 -> 0");
        run("9", "add 7 5 -> 0", "add 5 5 -> 1", "nearest 6 5 -> 0", "nearest 5 5 -> 1", "add 6 6 -> 2", "nearest 6 5 -> 0", "add 6 5 -> 3",
            "nearest 6 5 -> 3");
        Told told = new Told("20");
        for (int i = 0; i < CIRCLE.length; i++) {
            told.rows("add " + CIRCLE[11 - i][0] + " " + CIRCLE[11 - i][1] + " -> " + i, "nearest 0 0 -> 0");
        }
        told.rows("nearest -1 0 -> 11", "nearest 0 1 -> 2", "add 0 4 -> 12", "nearest 0 0 -> 12", "add 4 0 -> 13", "nearest 0 0 -> 12");
        sentence("The point that is nearest to a place: as far as may be");
        run("9", "add R R -> 0", "nearest L L -> 0", "add R R-1 -> 1", "nearest L L -> 1", "add R-1 R -> 2", "nearest L L -> 1",
            "nearest L R -> 2", "add R-1 R-1 -> 3", "nearest L L -> 3");
        run("9", "add L R -> 0", "add R L -> 1", "nearest L L -> 0", "nearest R R -> 0", "nearest R R-1 -> 1", "nearest R-1 R -> 0",
            "nearest 0 0 -> 0", "nearest 1 0 -> 1", "nearest 0 1 -> 0");
        sentence("The point that is nearest to a place: also one that is no corner of the triangle that the place lies in, and from outside");
        run("9", "add 0 0 -> 0", "add 100 0 -> 1", "add 50 9 -> 2", "nearest 50 1 -> 2", "add 50 -1 -> 3", "nearest 50 1 -> 3",
            "nearest 50 R -> 2", "nearest 50 L -> 3");
        sentence("IllegalStateException, when there are none");
        run("9", "nearest 0 0 -> " + STATE, "nearest L R -> " + STATE, "add 0 0 -> 0", "nearest 0 0 -> 0", "clear -> 1",
            "nearest 0 0 -> " + STATE);
        run("1", "add R+1 0 -> " + ARGUMENT, "nearest 0 0 -> " + STATE);
    }

    // ---- Promise 12

    private static void closest() {
        sentence("the two points that are nearest to one another: the square of how far they are apart (what 0), the lower number (1), the other (2)");
        run("9", "add 0 0 -> 0", "add 3 4 -> 1", "pair -> 25 0 1", "add 20 20 -> 2", "pair -> 25 0 1", "add 21 20 -> 3", "pair -> 1 2 3",
            "add 0 -1 -> 4", "pair -> 1 0 4");
        sentence("the square of how far they are apart: as far and as near as may be");
        run("9", "add L L -> 0", "add R R -> 1", "pair -> 8000000000000000000 0 1");
        run("9", "add R L -> 0", "add L R -> 1", "pair -> 8000000000000000000 0 1", "add L R-1 -> 2", "pair -> 1 1 2", "add R-1 L -> 3",
            "pair -> 1 0 3");
        run("9", "add L 0 -> 0", "add R 0 -> 1", "pair -> 4000000000000000000 0 1", "add 0 R -> 2", "pair -> 2000000000000000000 0 2",
            "add 0 L -> 3", "pair -> 2000000000000000000 0 2");
        sentence("(of equally near ones those with the lowest number, then the other lowest)");
        run("9", "add 0 0 -> 0", "add 50 0 -> 1", "add 51 0 -> 2", "pair -> 1 1 2", "add 0 1 -> 3", "pair -> 1 0 3", "add 1 0 -> 4",
            "pair -> 1 0 3", "add 50 1 -> 5", "pair -> 1 0 3");
        run("9", "add 0 0 -> 0", "add 0 2 -> 1", "add 2 0 -> 2", "pair -> 4 0 1", "add 2 2 -> 3", "pair -> 4 0 1", "add 1 1 -> 4",
            "pair -> 2 0 4");
        run("9", "add 90 0 -> 0", "add 0 0 -> 1", "add 50 0 -> 2", "add 51 0 -> 3", "pair -> 1 2 3", "add 1 0 -> 4", "pair -> 1 1 4",
            "add 0 1 -> 5", "pair -> 1 1 4", "add 90 1 -> 6", "pair -> 1 0 6");
        run("9", "add 0 0 -> 0", "add 10 0 -> 1", "add 20 0 -> 2", "pair -> 100 0 1", "add 30 0 -> 3", "add 5 0 -> 4", "pair -> 25 0 4",
            "add 15 0 -> 5", "pair -> 25 0 4");
        sentence("IndexOutOfBoundsException, for another what");
        for (String what : new String[] {"-1", "3", "4", "MIN", "MAX"}) {
            run("9", "add 0 0 -> 0", "add 3 4 -> 1", "closest " + what + " -> " + INDEX, "add 9 9 -> 2", "closest " + what + " -> " + INDEX,
                "pair -> 25 0 1");
        }
        sentence("IllegalStateException, when there are not two points");
        for (String what : new String[] {"0", "1", "2"}) {
            run("9", "closest " + what + " -> " + STATE, "add 0 0 -> 0", "closest " + what + " -> " + STATE, "add 0 0 -> NONE",
                "closest " + what + " -> " + STATE, "add 3 4 -> 1", "pair -> 25 0 1",
                "clear -> 2", "closest " + what + " -> " + STATE, "add 3 4 -> 0", "closest " + what + " -> " + STATE, "add 30 4 -> 1",
                "pair -> 729 0 1");
            run("1", "add 0 0 -> 0", "add 1 0 -> " + STATE, "closest " + what + " -> " + STATE);
        }
    }

    // ---- Promise 13

    private static void point() {
        sentence("x (what 0) or y (1) of a point");
        run("9", "add L R -> 0", "point 0 0 -> L", "point 0 1 -> R", "add R L -> 1", "point 1 0 -> R", "point 1 1 -> L", "add 0 -1 -> 2",
            "point 2 0 -> 0", "point 2 1 -> -1", "point 0 0 -> L",
            "point 0 1 -> R", "clear -> 3", "add 5 6 -> 0", "point 0 0 -> 5", "point 0 1 -> 6");
        sentence("IndexOutOfBoundsException, when there is no such point or what");
        for (String[] points : new String[][] {{}, {"0 0"}, {"0 0", "9 0"}, {"0 0", "9 0", "5 0"}, {"0 0", "9 0", "0 9", "2 2"}}) {
            Told told = new Told("4");
            told.points(points);
            noSuchPoint(told, "point", " 0", points.length);
            noSuchPoint(told, "point", " 1", points.length);
            noSuchPoint(told, "point", " 2", points.length);
            for (int i = 0; i < points.length; i++) {
                for (String what : new String[] {"-1", "2", "3", "MIN", "MAX"}) {
                    told.row("point " + i + " " + what + " -> " + INDEX);
                }
            }
            told.row("clear -> " + points.length);
            noSuchPoint(told, "point", " 0", 0);
        }
    }

    // ---- Promise 14

    private static void count() {
        sentence("Points (0), triangles (1), corners (2)");
        run("9", "count 0 -> 0", "count 1 -> 0", "count 2 -> 0", "add 0 0 -> 0", "count 0 -> 1", "count 1 -> 0", "count 2 -> 1",
            "add 9 0 -> 1", "count 0 -> 2", "count 1 -> 0", "count 2 -> 2",
            "add 5 0 -> 2", "count 0 -> 3", "count 1 -> 0", "count 2 -> 2", "add 5 5 -> 3", "count 0 -> 4", "count 1 -> 2", "count 2 -> 3",
            "add 5 -9 -> 4", "count 0 -> 5", "count 1 -> 4", "count 2 -> 4",
            "add 5 9 -> 5", "count 0 -> 6", "count 1 -> 6", "count 2 -> 4", "clear -> 6", "count 0 -> 0", "count 1 -> 0", "count 2 -> 0");
        sentence("NONE for another what");
        for (String what : new String[] {"-1", "3", "4", "MIN", "MAX"}) {
            run("9", "count " + what + " -> NONE", "add 0 0 -> 0", "count " + what + " -> NONE", "add 9 0 -> 1", "add 0 9 -> 2",
                "count " + what + " -> NONE");
        }
    }

    // ---- all promises: a refused call

    private static void refusedCallsChangeNothing() {
        String[][] nets = {{}, {"3 3"}, {"0 0", "9 9"}, {"0 0", "9 9", "3 3"}, {"0 0", "9 0", "0 9"}, {"0 0", "9 0", "0 9", "9 9", "5 4"}};
        for (String[] points : nets) {
            String most = "" + Math.max(1, points.length);
            List<String> refused = new ArrayList<>(List.of("triangle -1 0 -> " + INDEX, "triangle 0 3 -> " + INDEX,
                "triangle 99 0 -> " + INDEX, "neighbours -1 -> " + INDEX,
                "neighbours 99 -> " + INDEX, "neighbour 99 0 -> " + INDEX, "neighbour 0 99 -> " + INDEX, "neighbour 0 -1 -> " + INDEX,
                "corner -1 -> " + INDEX,
                "corner 99 -> " + INDEX, "closest 3 -> " + INDEX, "closest -1 -> " + INDEX, "point -1 0 -> " + INDEX,
                "point 99 1 -> " + INDEX, "point 0 2 -> " + INDEX,
                "located 3 -> NONE", "located -1 -> NONE", "count 3 -> NONE", "count -1 -> NONE", "find 7 8 -> NONE"));
            for (String call : PLACE_CALLS) {
                refused.add(call + " R+1 0 -> " + ARGUMENT);
                refused.add(call + " 0 L-1 -> " + ARGUMENT);
            }
            for (String point : points) {
                refused.add("add " + point + " -> NONE");
            }
            if (points.length > 0) {
                refused.add("add 4 4 -> " + STATE);
                refused.add("add 9 10 -> " + STATE);
            }
            for (String row : refused) {
                sentence("a refused call changes nothing: " + row);
                Told told = new Told(most);
                told.points(points);
                told.ask("locate", "3", "3");
                String before = told.all();
                told.row(row);
                due("all that is told", before, told.all());
            }
        }
        sentence("a refused call changes nothing: what comes later");
        run("4", "add 0 0 -> 0", "add R+1 5 -> " + ARGUMENT, "add 9 0 -> 1", "add 9 0 -> NONE", "add 5 R+1 -> " + ARGUMENT, "add 0 9 -> 2",
            "add L-1 MIN -> " + ARGUMENT, "triangles -> 0 1 2",
            "add 2 2 -> 3", "triangles -> 0 1 3, 0 3 2, 1 2 3", "add 1 2 -> " + STATE, "triangles -> 0 1 3, 0 3 2, 1 2 3", "pair -> 8 0 3",
            "find 1 2 -> NONE", "nearest 1 2 -> 3", "clear -> 4");
    }

    // ---- help

    private static void sentence(String words) {
        sentence = words;
    }

    private static void run(String most, String... rows) {
        new Told(most).rows(rows);
    }

    private static void due(String what, String want, String got) {
        if (!want.equals(got)) {
            wrong++;
            System.out.println("'" + sentence + "': " + what + " answered " + got + ", due is " + want);
        }
    }

    private static long valueOf(String word) {
        switch (word) {
            case "R":
                return R;
            case "L":
                return -R;
            case "MIN":
                return Integer.MIN_VALUE;
            case "MAX":
                return Integer.MAX_VALUE;
            case "NONE":
                return PlaneNet.NONE;
            default:
                break;
        }
        if (word.startsWith("R") || word.startsWith("L")) {
            return valueOf(word.substring(0, 1)) + Integer.parseInt(word.substring(1));
        }
        return Long.parseLong(word);
    }

    /** One object, its calls counted. */
    private static final class Told {
        private final PlaneNet net;
        private int calls = 0;

        Told(String most) {
            net = new PlaneNet((int) valueOf(most));
        }

        void rows(String... all) {
            for (String row : all) {
                row(row);
            }
        }

        void points(String... places) {
            for (int i = 0; i < places.length; i++) {
                row("add " + places[i] + " -> " + i);
            }
        }

        void row(String row) {
            int arrow = row.indexOf("->");
            String call = row.substring(0, arrow).trim();
            String want = row.substring(arrow + 2).trim();
            String[] words = call.split(" ");
            switch (words[0]) {
                case "triangles":
                    due(call, want, triangles());
                    beside(() -> net.triangle(-1, 0), () -> net.triangle(net.count(1), 0), call);
                    break;
                case "corners":
                    due(call, want, corners());
                    beside(() -> net.corner(-1), () -> net.corner(net.count(2)), call);
                    break;
                case "round":
                    int point = Integer.parseInt(words[1]);
                    due(call, want, round(point));
                    beside(() -> net.neighbour(point, -1), () -> net.neighbour(point, net.neighbours(point)), call);
                    break;
                case "where":
                    due(call, numbersOf(want), ask("locate", words[1], words[2]) + " " + three("located"));
                    break;
                case "pair":
                    due(call, want, three("closest"));
                    break;
                default:
                    due(call, want.startsWith("throws.") ? want : numbersOf(want), ask(words));
                    break;
            }
        }

        private void beside(Call before, Call behind, String call) {
            due(call + ", before the first", INDEX, answer(before));
            calls++;
            due(call + ", behind the last", INDEX, answer(behind));
        }

        private String numbersOf(String words) {
            List<String> all = new ArrayList<>();
            for (String word : words.split(" ")) {
                all.add("" + valueOf(word));
            }
            return String.join(" ", all);
        }

        String ask(String... words) {
            int a = words.length > 1 ? (int) valueOf(words[1]) : 0;
            int b = words.length > 2 ? (int) valueOf(words[2]) : 0;
            switch (words[0]) {
                case "add":
                    return answer(() -> net.add(a, b));
                case "clear":
                    return answer(() -> net.clear());
                case "find":
                    return answer(() -> net.find(a, b));
                case "triangle":
                    return answer(() -> net.triangle(a, b));
                case "neighbours":
                    return answer(() -> net.neighbours(a));
                case "neighbour":
                    return answer(() -> net.neighbour(a, b));
                case "corner":
                    return answer(() -> net.corner(a));
                case "locate":
                    return answer(() -> net.locate(a, b));
                case "located":
                    return answer(() -> net.located(a));
                case "nearest":
                    return answer(() -> net.nearest(a, b));
                case "closest":
                    return answer(() -> net.closest(a));
                case "point":
                    return answer(() -> net.point(a, b));
                case "count":
                    return answer(() -> net.count(a));
                default:
                    throw new IllegalStateException("the test asks for " + words[0]);
            }
        }

        private String answer(Call call) {
            asked++;
            calls++;
            if (calls > CALLS) {
                throw new IllegalStateException("the test makes more than 512 calls");
            }
            try {
                return "" + call.answer();
            } catch (RuntimeException e) {
                return "throws." + e.getClass().getSimpleName();
            }
        }

        private int many(String... words) {
            String answer = ask(words);
            return answer.startsWith("throws.") ? 0 : Integer.parseInt(answer);
        }

        private String triangles() {
            List<String> all = new ArrayList<>();
            int many = many("count", "1");
            for (int k = 0; k < many; k++) {
                all.add(ask("triangle", "" + k, "0") + " " + ask("triangle", "" + k, "1") + " " + ask("triangle", "" + k, "2"));
            }
            return String.join(", ", all);
        }

        private String corners() {
            List<String> all = new ArrayList<>();
            int many = many("count", "2");
            for (int k = 0; k < many; k++) {
                all.add(ask("corner", "" + k));
            }
            return String.join(" ", all);
        }

        private String round(int point) {
            List<String> all = new ArrayList<>();
            int many = many("neighbours", "" + point);
            for (int k = 0; k < many; k++) {
                all.add(ask("neighbour", "" + point, "" + k));
            }
            return String.join(" ", all);
        }

        private String three(String call) {
            return ask(call, "0") + " " + ask(call, "1") + " " + ask(call, "2");
        }

        /** All that the object tells without a place. */
        String all() {
            StringBuilder all = new StringBuilder();
            all.append(three("located")).append("; ").append(three("closest")).append("; ").append(three("count")).append("; ");
            all.append(triangles()).append("; ").append(corners());
            int many = many("count", "0");
            for (int i = 0; i < many; i++) {
                all.append("; ").append(ask("point", "" + i, "0")).append(" ").append(ask("point", "" + i,
                    "1")).append(": ").append(round(i));
            }
            return all.toString();
        }
    }

    private interface Call {
        long answer();
    }
}
