import java.math.BigInteger;
import java.util.ArrayList;
import java.util.Arrays;
import java.util.Collections;
import java.util.List;
import java.util.Random;

/** Holds PlaneNet against the document's own words, taken as they stand and worked out the long way. */
public final class WordsTest {
    private static final int NONE = -1;
    private static final int REACH = 1000000000;

    private static int wrong = 0;
    private static long asked = 0;

    private interface Source {
        int[] next(Random random, int index);
    }

    public static void main(String[] args) {
        int[][] circle = circleOf(65);
        int[][] wide = stretched(circleOf(325), 3076923);
        runs("grid of 3", 250, 12, (random, i) -> grid(random, 3, 1));
        runs("grid of 5", 200, 14, (random, i) -> grid(random, 5, 1));
        runs("grid of 9", 60, 16, (random, i) -> grid(random, 9, 7));
        runs("far grid", 120, 12, (random, i) -> grid(random, 5, REACH / 2));
        runs("line", 80, 10, (random, i) -> line(random, 20));
        runs("line and others", 200, 14, (random, i) -> line(random, 5));
        runs("far line", 80, 12, (random, i) -> farLine(random));
        runs("circle", 80, 14, (random, i) -> circle[random.nextInt(circle.length)]);
        runs("far circle", 80, 14, (random, i) -> wide[random.nextInt(wide.length)]);
        runs("nearly a far circle", 80, 12, (random, i) -> shaken(random, wide[random.nextInt(wide.length)]));
        runs("anywhere", 60, 16, (random, i) -> new int[] {anywhere(random), anywhere(random)});
        runs("at the edges", 120, 12, (random, i) -> new int[] {atEdge(random), atEdge(random)});
        runs("two clusters", 60, 14, (random, i) -> cluster(random));
        runs("parabola", 10, 18, (random, i) -> new int[] {i * 1000, i * i * 1000});
        large("anywhere", 1024, 470, (random, i) -> new int[] {anywhere(random), anywhere(random)});
        large("grid", 1024, 470, (random, i) -> grid(random, 22, 1));
        large("parabola", 1024, 470, (random, i) -> new int[] {i * 1000, i * i * 1000});
        large("line and one more", 1024, 470, (random, i) -> i == 400 ? new int[] {7, 100} : new int[] {(i * 277 % 470) * 3, 0});
        large("circle", 1024, 300, (random, i) -> circleOf(160225)[i % 60]);
        for (int most : new int[] {1, 2, 3, 4, 5, 8, 15, 16, 17, 31, 32, 33, 34, 63, 64, 65, 66, 95, 96, 97, 127, 128, 129}) {
            asManyAsMayBe(most);
        }
        large("anywhere, as many as may be", 448, 448, (random, i) -> new int[] {anywhere(random), anywhere(random)});
        System.out.println(asked + " answers asked, " + wrong + " wrong");
        if (wrong != 0) {
            System.exit(1);
        }
    }

    // ---- where points come from

    private static int[] grid(Random random, int side, int step) {
        return new int[] {(random.nextInt(side) - side / 2) * step, (random.nextInt(side) - side / 2) * step};
    }

    private static int[] line(Random random, int chance) {
        int at = random.nextInt(9) - 4;
        return random.nextInt(chance) == 0 ? grid(random, 9, 1) : new int[] {2 * at, 3 * at};
    }

    private static int[] farLine(Random random) {
        int at = random.nextInt(9) - 4;
        int off = random.nextInt(6) == 0 ? 1 : 0;
        return new int[] {at * 250000000, -at * 249999999 + off};
    }

    private static int anywhere(Random random) {
        return random.nextInt(2 * REACH + 1) - REACH;
    }

    private static int atEdge(Random random) {
        int in = random.nextInt(3);
        return random.nextBoolean() ? REACH - in : -REACH + in;
    }

    private static int[] cluster(Random random) {
        int[] at = grid(random, 3, 1);
        return random.nextBoolean() ? at : new int[] {at[0] + REACH - 1, at[1] + REACH - 1};
    }

    private static int[] shaken(Random random, int[] at) {
        return random.nextInt(3) > 0 ? at : new int[] {within(at[0] + random.nextInt(3) - 1), within(at[1] + random.nextInt(3) - 1)};
    }

    private static int within(int value) {
        return Math.max(-REACH, Math.min(REACH, value));
    }

    private static int[][] circleOf(int radius) {
        List<int[]> all = new ArrayList<>();
        long square = (long) radius * radius;
        for (int x = -radius; x <= radius; x++) {
            long rest = square - (long) x * x;
            int y = (int) Math.round(Math.sqrt((double) rest));
            if ((long) y * y == rest) {
                all.add(new int[] {x, y});
                if (y != 0) {
                    all.add(new int[] {x, -y});
                }
            }
        }
        Collections.shuffle(all, new Random(radius));
        return all.toArray(new int[0][]);
    }

    private static int[][] stretched(int[][] all, int by) {
        for (int[] one : all) {
            one[0] *= by;
            one[1] *= by;
        }
        return all;
    }

    // ---- runs

    private static void runs(String name, int many, int most, Source source) {
        for (int run = 0; run < many; run++) {
            Random random = new Random(name.hashCode() * 1000L + run);
            Told net = new Told(most);
            Words words = new Words(most);
            for (int i = 0; i < most + 4; i++) {
                int[] at = source.next(random, i);
                due(name, run, "add", words.add(at[0], at[1]), net.tell(at));
                if (random.nextInt(60) == 0) {
                    due(name, run, "clear", words.xs.size(), net.removeAll());
                    words = new Words(most);
                }
                if (random.nextInt(3) == 0 || i == most + 3) {
                    compare(name, run, words, net, random, source);
                }
            }
        }
    }

    /** The object that is asked; before it has had more than its 512 calls, a new one is told the same points. */
    private static final class Told {
        private static final int CALLS = 512;

        private final int most;
        private final List<int[]> points = new ArrayList<>();
        private PlaneNet net;
        private int calls;

        Told(int most) {
            this.most = most;
            net = new PlaneNet(most);
            calls = 0;
        }

        /** -2 for IllegalStateException. */
        int tell(int[] at) {
            int answer;
            try {
                answer = forCalls(1).add(at[0], at[1]);
            } catch (IllegalStateException e) {
                answer = -2;
            }
            if (answer >= 0) {
                points.add(at);
            }
            return answer;
        }

        int removeAll() {
            int answer = forCalls(1).clear();
            points.clear();
            return answer;
        }

        /** For so many calls, which belong together. */
        PlaneNet forCalls(int many) {
            if (calls + many > CALLS) {
                net = new PlaneNet(most);
                for (int[] at : points) {
                    net.add(at[0], at[1]);
                }
                calls = points.size();
            }
            calls += many;
            return net;
        }
    }

    private static void due(String name, int run, String what, long want, long got) {
        asked++;
        if (want != got) {
            wrong++;
            if (wrong < 50) {
                System.out.println(name + ", run " + run + ": " + what + " answered " + got + ", due is " + want);
            }
        }
    }

    private static void compare(String name, int run, Words words, Told net, Random random, Source source) {
        words.work();
        int size = words.xs.size();
        due(name, run, "count(0)", size, net.forCalls(1).count(0));
        due(name, run, "count(1)", words.triangles.size(), net.forCalls(1).count(1));
        due(name, run, "count(2)", words.corners.size(), net.forCalls(1).count(2));
        if (words.triangles.size() != net.forCalls(1).count(1) || words.corners.size() != net.forCalls(1).count(2)) {
            return;
        }
        for (int k = 0; k < words.triangles.size(); k++) {
            for (int what = 0; what < 3; what++) {
                due(name, run, "triangle(" + k + ", " + what + ")", words.triangles.get(k)[what], net.forCalls(1).triangle(k, what));
            }
        }
        for (int k = 0; k < words.corners.size(); k++) {
            due(name, run, "corner(" + k + ")", words.corners.get(k), net.forCalls(1).corner(k));
        }
        for (int i = 0; i < size; i++) {
            compareNeighbours(name, run, words, net, i);
            due(name, run, "point", words.xs.get(i), net.forCalls(1).point(i, 0));
            due(name, run, "point", words.ys.get(i), net.forCalls(1).point(i, 1));
            due(name, run, "find", i, net.forCalls(1).find(words.xs.get(i), words.ys.get(i)));
        }
        if (size >= 2) {
            long[] closest = words.closest();
            for (int what = 0; what < 3; what++) {
                due(name, run, "closest(" + what + ")", closest[what], net.forCalls(1).closest(what));
            }
        }
        for (int i = 0; i < 12; i++) {
            int[] place = placeFor(random, words, source.next(random, i), i);
            comparePlace(name, run, words, net, place[0], place[1]);
        }
    }

    /** A place like the points, or half between two of them, or near one. */
    private static int[] placeFor(Random random, Words words, int[] at, int kind) {
        int size = words.xs.size();
        if (kind < 4 || size == 0) {
            return at;
        }
        int a = random.nextInt(size);
        if (kind < 9) {
            int b = random.nextInt(size);
            return new int[] {(int) (((long) words.xs.get(a) + words.xs.get(b)) / 2), (int) (((long) words.ys.get(a) + words.ys.get(b)) / 2)};
        }
        return new int[] {within(words.xs.get(a) + random.nextInt(3) - 1), within(words.ys.get(a) + random.nextInt(3) - 1)};
    }

    private static void compareNeighbours(String name, int run, Words words, Told net, int i) {
        List<Integer> want = words.neighbours(i);
        int many = net.forCalls(1).neighbours(i);
        due(name, run, "neighbours(" + i + ")", want.size(), many);
        for (int k = 0; k < want.size() && k < many; k++) {
            due(name, run, "neighbour(" + i + ", " + k + ")", want.get(k), net.forCalls(1).neighbour(i, k));
        }
    }

    private static void comparePlace(String name, int run, Words words, Told told, int x, int y) {
        PlaneNet net = told.forCalls(6);
        int[] want = words.locate(x, y);
        String place = "(" + x + ", " + y + ")";
        due(name, run, "locate" + place, want[0], net.locate(x, y));
        for (int what = 0; what < 3; what++) {
            due(name, run, "located(" + what + ") of " + place, want[1 + what], net.located(what));
        }
        due(name, run, "find" + place, want[0] == 3 ? want[1] : NONE, net.find(x, y));
        if (words.xs.size() > 0) {
            due(name, run, "nearest" + place, words.nearest(x, y), net.nearest(x, y));
        }
    }

    // ---- nets too large for the long way: what must be true of the answers is asked

    private static void asManyAsMayBe(int most) {
        int last = most - 1;
        large("anywhere, as many as may be", most, most, (random, i) -> new int[] {anywhere(random), anywhere(random)});
        large("grid, as many as may be", most, most, (random, i) -> new int[] {i % 7, i / 7});
        large("line, as many as may be", most, most, (random, i) -> new int[] {3 * i, -2 * i});
        large("line and a last one, as many as may be", most, most, (random, i) -> new int[] {i == last ? 1 : i, i == last ? 1 : 0});
        large("fan, as many as may be", most, most, (random, i) -> i == 0 ? new int[] {REACH, 0} : new int[] {-i * i, i});
        large("fan and a last one, as many as may be", most, most, (random, i) -> i == last ? new int[] {REACH, 0} : new int[] {-i * i, i});
    }

    private static void large(String name, int most, int calls, Source source) {
        Random random = new Random(most);
        Told net = new Told(most);
        Words words = new Words(most);
        for (int i = 0; i < calls; i++) {
            int[] at = source.next(random, i);
            due(name, most, "add", words.add(at[0], at[1]), net.tell(at));
        }
        if (words.xs.size() == most) {
            due(name, most, "add of one too many", -2, net.tell(new int[] {-REACH, 12345}));
        }
        due(name, most, "count(0)", words.xs.size(), net.forCalls(1).count(0));
        takeTriangles(name, most, words, net);
        due(name, most, "area", 1, Math.abs(areaByCorners(name, most, words, net) - areaByTriangles(words)) <= 2 * words.xs.size() ? 1 : 0);
        countEdges(name, most, words, net);
        if (words.xs.size() >= 2) {
            long[] closest = words.closest();
            for (int what = 0; what < 3; what++) {
                due(name, most, "closest(" + what + ")", closest[what], net.forCalls(1).closest(what));
            }
        }
        if (words.xs.size() < 150) {
            askAll(name, most, words, net, random);
        }
    }

    private static void takeTriangles(String name, int most, Words words, Told net) {
        int many = net.forCalls(1).count(1);
        int[] before = {NONE, NONE, NONE};
        for (int k = 0; k < many; k++) {
            int[] told = {net.forCalls(1).triangle(k, 0), net.forCalls(1).triangle(k, 1), net.forCalls(1).triangle(k, 2)};
            due(name, most, "order of triangle " + k, 1, Arrays.compare(before, told) < 0 ? 1 : 0);
            due(name, most, "lowest first", 1, told[0] < told[1] && told[0] < told[2] ? 1 : 0);
            due(name, most, "triangle " + k + " left round", 1, words.turn(told[0], told[1], told[2]) > 0 ? 1 : 0);
            for (int d = 0; d < words.xs.size(); d++) {
                due(name, most, "triangle " + k + " stands before " + d, 1, words.stands(told, d) ? 1 : 0);
            }
            before = told;
            words.triangles.add(told);
        }
        words.line = many == 0;
    }

    private static long areaByTriangles(Words words) {
        long area = 0;
        for (int[] told : words.triangles) {
            area += words.turn(told[0], told[1], told[2]) / 4;
        }
        return area;
    }

    private static long areaByCorners(String name, int most, Words words, Told net) {
        long area = 0;
        int many = net.forCalls(1).count(2);
        due(name, most, "corners, at least", 1, many >= Math.min(words.xs.size(), words.line ? 2 : 3) ? 1 : 0);
        for (int k = 1; k + 1 < many; k++) {
            long turn = words.turn(net.forCalls(1).corner(0), net.forCalls(1).corner(k), net.forCalls(1).corner(k + 1));
            due(name, most, "corner " + k + " turns left", 1, turn > 0 ? 1 : 0);
            area += turn / 4;
        }
        return area;
    }

    private static void countEdges(String name, int most, Words words, Told net) {
        long ends = 0;
        for (int i = 0; i < words.xs.size(); i++) {
            ends += net.forCalls(1).neighbours(i);
        }
        // Points - edges + triangles = 1.
        due(name, most, "edges", words.xs.size() + words.triangles.size() - 1, ends / 2);
    }

    private static void askAll(String name, int most, Words words, Told net, Random random) {
        for (int i = 0; i < words.xs.size(); i++) {
            compareNeighbours(name, most, words, net, i);
            comparePlace(name, most, words, net, words.xs.get(i), words.ys.get(i));
        }
        for (int i = 4; i < 12; i++) {
            int[] place = placeFor(random, words, null, i);
            comparePlace(name, most, words, net, place[0], place[1]);
        }
    }

    /** The document's words. */
    private static final class Words {
        final int most;
        final List<Integer> xs = new ArrayList<>();
        final List<Integer> ys = new ArrayList<>();
        final List<int[]> triangles = new ArrayList<>();
        final List<Integer> corners = new ArrayList<>();
        boolean line;

        Words(int most) {
            this.most = most;
        }

        /** -2 for IllegalStateException. */
        int add(int x, int y) {
            for (int i = 0; i < xs.size(); i++) {
                if (xs.get(i) == x && ys.get(i) == y) {
                    return NONE;
                }
            }
            if (xs.size() == most) {
                return -2;
            }
            xs.add(x);
            ys.add(y);
            return xs.size() - 1;
        }

        long turn(int a, int b, int c) {
            return turn(a, b, xs.get(c), ys.get(c));
        }

        long turn(int a, int b, int x, int y) {
            return ((long) xs.get(b) - xs.get(a)) * ((long) y - ys.get(a)) - ((long) ys.get(b) - ys.get(a)) * ((long) x - xs.get(a));
        }

        boolean less(int a, int b) {
            return xs.get(a) < xs.get(b) || xs.get(a).equals(xs.get(b)) && ys.get(a) < ys.get(b);
        }

        long gap(int a, int x, int y) {
            long dx = (long) xs.get(a) - x;
            long dy = (long) ys.get(a) - y;
            return dx * dx + dy * dy;
        }

        /** Of a, b, c left round: 1 when d is inside their circle, 0 on it, -1 outside. */
        int inCircle(int a, int b, int c, int d) {
            BigInteger sum = BigInteger.ZERO;
            int[] three = {a, b, c, a, b};
            for (int i = 0; i < 3; i++) {
                BigInteger square = BigInteger.valueOf(gap(three[i], xs.get(d), ys.get(d)));
                sum = sum.add(square.multiply(BigInteger.valueOf(turn(d, three[i + 1], three[i + 2]))));
            }
            return sum.signum();
        }

        /** For a large net: d is not in the circle, nor on it with a triangle that the least point does not share. */
        boolean stands(int[] told, int d) {
            if (d == told[0] || d == told[1] || d == told[2]) {
                return true;
            }
            int in = inCircle(told[0], told[1], told[2], d);
            if (in != 0) {
                return in < 0;
            }
            int least = told[0];
            int at = 0;
            for (int i = 1; i < 3; i++) {
                if (less(told[i], least)) {
                    least = told[i];
                    at = i;
                }
            }
            // All of the circle's triangles have its least point, and no point of it lies beyond the side opposite.
            return less(least, d) && turn(told[(at + 1) % 3], told[(at + 2) % 3], d) > 0;
        }

        void work() {
            int size = xs.size();
            triangles.clear();
            line = true;
            for (int a = 0; a < size; a++) {
                for (int b = a + 1; b < size; b++) {
                    for (int c = b + 1; c < size; c++) {
                        long turn = turn(a, b, c);
                        if (turn != 0) {
                            line = false;
                            addCircle(a, turn > 0 ? b : c, turn > 0 ? c : b);
                        }
                    }
                }
            }
            triangles.sort(Arrays::compare);
            workCorners();
        }

        private void addCircle(int a, int b, int c) {
            List<Integer> on = new ArrayList<>();
            for (int d = 0; d < xs.size(); d++) {
                int in = d == a || d == b || d == c ? 0 : inCircle(a, b, c, d);
                if (in > 0) {
                    return;
                }
                if (in == 0) {
                    on.add(d);
                }
            }
            int m = on.get(0);
            for (int d : on) {
                m = less(d, m) ? d : m;
            }
            int least = m;
            on.remove(Integer.valueOf(m));
            on.sort((p, q) -> turn(least, p, q) > 0 ? -1 : p.equals(q) ? 0 : 1);
            for (int i = 0; i + 1 < on.size(); i++) {
                int[] told = lowestFirst(m, on.get(i), on.get(i + 1));
                boolean known = false;
                for (int[] one : triangles) {
                    known |= Arrays.equals(one, told);
                }
                if (!known) {
                    triangles.add(told);
                }
            }
        }

        private static int[] lowestFirst(int a, int b, int c) {
            if (a < b && a < c) {
                return new int[] {a, b, c};
            }
            return b < c ? new int[] {b, c, a} : new int[] {c, a, b};
        }

        private boolean between(int a, int b, int x, int y) {
            if (turn(a, b, x, y) != 0) {
                return false;
            }
            return (long) gap(a, x, y) < gap(a, xs.get(b), ys.get(b)) && gap(b, x, y) < gap(a, xs.get(b), ys.get(b));
        }

        private boolean isCorner(int p) {
            int size = xs.size();
            for (int a = 0; a < size; a++) {
                for (int b = 0; b < size; b++) {
                    if (a == p || b == p || a == b) {
                        continue;
                    }
                    if (between(a, b, xs.get(p), ys.get(p))) {
                        return false;
                    }
                    for (int c = 0; c < size; c++) {
                        if (c != p && turn(a, b, c) > 0 && turn(a, b, p) >= 0 && turn(b, c, p) >= 0 && turn(c, a, p) >= 0) {
                            return false;
                        }
                    }
                }
            }
            return true;
        }

        private void workCorners() {
            corners.clear();
            for (int p = 0; p < xs.size(); p++) {
                if (isCorner(p)) {
                    corners.add(p);
                }
            }
            if (corners.isEmpty()) {
                return;
            }
            int m = corners.get(0);
            for (int p : corners) {
                m = less(p, m) ? p : m;
            }
            int least = m;
            corners.remove(Integer.valueOf(m));
            corners.sort((p, q) -> turn(least, p, q) > 0 ? -1 : p.equals(q) ? 0 : 1);
            corners.add(0, m);
        }

        private boolean areNeighbours(int a, int b) {
            if (line) {
                for (int c = 0; c < xs.size(); c++) {
                    if (c != a && c != b && between(a, b, xs.get(c), ys.get(c))) {
                        return false;
                    }
                }
                return true;
            }
            for (int[] one : triangles) {
                boolean hasA = one[0] == a || one[1] == a || one[2] == a;
                boolean hasB = one[0] == b || one[1] == b || one[2] == b;
                if (hasA && hasB) {
                    return true;
                }
            }
            return false;
        }

        List<Integer> neighbours(int p) {
            List<Integer> all = new ArrayList<>();
            for (int q = 0; q < xs.size(); q++) {
                if (q != p && areNeighbours(p, q)) {
                    all.add(q);
                }
            }
            if (all.size() > 2) {
                int first = all.get(0);
                all.sort((a, b) -> a.equals(b) ? 0 : comesFirst(p, first, a, b) ? -1 : 1);
            }
            return all;
        }

        /** Turning left about p from the way to first: whether a is met before b. */
        private boolean comesFirst(int p, int first, int a, int b) {
            int halfA = half(p, first, a);
            int halfB = half(p, first, b);
            return halfA != halfB ? halfA < halfB : turn(p, a, b) > 0;
        }

        private int half(int p, int first, int a) {
            if (a == first) {
                return 0;
            }
            long turn = turn(p, first, a);
            return turn > 0 ? 1 : turn == 0 ? 2 : 3;
        }

        int[] locate(int x, int y) {
            int size = xs.size();
            for (int p = 0; p < size; p++) {
                if (xs.get(p) == x && ys.get(p) == y) {
                    return new int[] {3, p, NONE, NONE};
                }
            }
            for (int a = 0; a < size; a++) {
                for (int b = a + 1; b < size; b++) {
                    if (between(a, b, x, y) && areNeighbours(a, b)) {
                        return new int[] {2, a, b, NONE};
                    }
                }
            }
            for (int[] one : triangles) {
                if (turn(one[0], one[1], x, y) > 0 && turn(one[1], one[2], x, y) > 0 && turn(one[2], one[0], x, y) > 0) {
                    return new int[] {1, one[0], one[1], one[2]};
                }
            }
            return new int[] {0, NONE, NONE, NONE};
        }

        int nearest(int x, int y) {
            int best = 0;
            for (int p = 1; p < xs.size(); p++) {
                best = gap(p, x, y) < gap(best, x, y) ? p : best;
            }
            return best;
        }

        long[] closest() {
            long[] best = null;
            for (int a = 0; a < xs.size(); a++) {
                for (int b = a + 1; b < xs.size(); b++) {
                    long gap = gap(a, xs.get(b), ys.get(b));
                    if (best == null || gap < best[0]) {
                        best = new long[] {gap, a, b};
                    }
                }
            }
            return best;
        }
    }
}
