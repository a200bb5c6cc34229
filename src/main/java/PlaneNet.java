import java.util.Arrays;

/**
 * A net of triangles between points of the plane that are told one by one: the circles of its triangles
 * have no point inside, and of more than three points on one circle the least is in all their triangles.
 */
public final class PlaneNet {
    public static final int NONE = -1;

    private static final int ROOM = 1024;
    private static final int REACH = 1000000000;
    private static final int BEYOND = REACH + 1;

    private static final int OUTSIDE = 0;
    private static final int IN_TRIANGLE = 1;
    private static final int BETWEEN = 2;
    private static final int ON_POINT = 3;

    private final Points points;
    private final Net net;
    private final Roll roll;
    private final Outline outline;
    private final int[] found;
    private long closestGap;
    private int closestLower;
    private int closestOther;

    public PlaneNet(int most) {
        points = new Points(Math.max(1, Math.min(most, ROOM)));
        net = new Net(points);
        roll = new Roll(points, net);
        outline = new Outline(points, net);
        found = new int[] {NONE, NONE, NONE};
        closestGap = 0;
        closestLower = NONE;
        closestOther = NONE;
    }

    public int add(int x, int y) throws IllegalArgumentException, IllegalStateException {
        checkPlace(x, y);
        int near = points.nearestOf(points.size, x, y);
        if (points.isAt(near, x, y)) {
            return NONE;
        }
        if (points.isFull()) {
            throw new IllegalStateException("there are as many points as may be");
        }
        makeRoom(points.size + 1);
        int number = points.append(x, y);
        noteClosest(near, number);
        if (net.isEmpty()) {
            tryToBeginNet(number);
        } else {
            net.insert(number, near);
        }
        forgetAnswers();
        return number;
    }

    public int clear() {
        int gone = points.size;
        points.size = 0;
        net.removeAll();
        closestLower = NONE;
        closestOther = NONE;
        forgetAnswers();
        return gone;
    }

    public int find(int x, int y) throws IllegalArgumentException {
        checkPlace(x, y);
        int near = points.nearestOf(points.size, x, y);
        return points.isAt(near, x, y) ? near : NONE;
    }

    public int triangle(int k, int what) throws IndexOutOfBoundsException {
        if (k < 0 || k >= net.solidCount() || what < 0 || what > 2) {
            throw new IndexOutOfBoundsException("no such triangle or point of it");
        }
        return net.startOf(Net.ahead(roll.edge(k), what));
    }

    public int neighbours(int point) throws IndexOutOfBoundsException {
        checkNumber(point);
        return neighbourCount(point);
    }

    public int neighbour(int point, int k) throws IndexOutOfBoundsException {
        checkNumber(point);
        if (k < 0 || k >= neighbourCount(point)) {
            throw new IndexOutOfBoundsException("no such neighbour");
        }
        return net.isEmpty() ? neighbourOnLine(point, k) : net.leftRound(point, k);
    }

    public int corner(int k) throws IndexOutOfBoundsException {
        if (k < 0 || k >= outline.many()) {
            throw new IndexOutOfBoundsException("no such corner");
        }
        return outline.at(k);
    }

    public int locate(int x, int y) throws IllegalArgumentException {
        checkPlace(x, y);
        forgetFound();
        int near = points.nearestOf(points.size, x, y);
        if (near == NONE) {
            return OUTSIDE;
        }
        if (points.isAt(near, x, y)) {
            found[0] = near;
            return ON_POINT;
        }
        return net.isEmpty() ? locateOnLine(x, y) : locateInNet(near, x, y);
    }

    public int located(int what) {
        return what >= 0 && what < found.length ? found[what] : NONE;
    }

    public int nearest(int x, int y) throws IllegalArgumentException, IllegalStateException {
        checkPlace(x, y);
        if (points.size == 0) {
            throw new IllegalStateException("there are no points");
        }
        return points.nearestOf(points.size, x, y);
    }

    public long closest(int what) throws IndexOutOfBoundsException, IllegalStateException {
        if (what < 0 || what > 2) {
            throw new IndexOutOfBoundsException("what is 0, 1 or 2");
        }
        if (points.size < 2) {
            throw new IllegalStateException("there are not two points");
        }
        if (what == 0) {
            return closestGap;
        }
        return what == 1 ? closestLower : closestOther;
    }

    public int point(int point, int what) throws IndexOutOfBoundsException {
        checkNumber(point);
        if (what < 0 || what > 1) {
            throw new IndexOutOfBoundsException("what is 0 or 1");
        }
        return what == 0 ? points.x(point) : points.y(point);
    }

    public int count(int what) {
        switch (what) {
            case 0:
                return points.size;
            case 1:
                return net.solidCount();
            case 2:
                return outline.many();
            default:
                return NONE;
        }
    }

    private static void checkPlace(int x, int y) {
        if (x < -REACH || x > REACH || y < -REACH || y > REACH) {
            throw new IllegalArgumentException("x and y are from -1000000000 to 1000000000");
        }
    }

    private void checkNumber(int number) {
        if (number < 0 || number >= points.size) {
            throw new IndexOutOfBoundsException("no such point");
        }
    }

    /** With every point a little, also while the net waits: else the call that begins it would make it all. */
    private void makeRoom(int many) {
        points.makeRoom(many);
        net.makeRoom(many);
        roll.makeRoom(many);
        outline.makeRoom(many);
    }

    /** A new point has the highest number, so that only its nearest one (with the lowest number) can matter. */
    private void noteClosest(int near, int number) {
        if (near == NONE) {
            return;
        }
        long gap = points.gap(near, points.x(number), points.y(number));
        if (closestLower == NONE || gap < closestGap || gap == closestGap && near < closestLower) {
            closestGap = gap;
            closestLower = near;
            closestOther = number;
        }
    }

    /** All points before this one are on one line: if it is not, they have waited for it. */
    private void tryToBeginNet(int number) {
        long turn = number < 2 ? 0 : points.turn(0, 1, points.x(number), points.y(number));
        if (turn == 0) {
            return;
        }
        if (turn > 0) {
            net.begin(0, 1, number);
        } else {
            net.begin(1, 0, number);
        }
        for (int i = 2; i < number; i++) {
            net.insert(i, points.nearestOf(i, points.x(i), points.y(i)));
        }
    }

    private void forgetAnswers() {
        forgetFound();
        roll.forget();
        outline.forget();
    }

    private void forgetFound() {
        Arrays.fill(found, NONE);
    }

    private int neighbourCount(int number) {
        if (!net.isEmpty()) {
            return net.degree(number);
        }
        int many = points.greatestBelow(points.x(number), points.y(number)) == NONE ? 0 : 1;
        return points.leastAbove(points.x(number), points.y(number)) == NONE ? many : many + 1;
    }

    /** The k-th is there. */
    private int neighbourOnLine(int number, int k) {
        int below = points.greatestBelow(points.x(number), points.y(number));
        int above = points.leastAbove(points.x(number), points.y(number));
        if (below == NONE || above == NONE) {
            return Math.max(below, above);
        }
        return k == 0 ? Math.min(below, above) : Math.max(below, above);
    }

    private int locateOnLine(int x, int y) {
        if (points.size < 2 || points.turn(0, 1, x, y) != 0) {
            return OUTSIDE;
        }
        int below = points.greatestBelow(x, y);
        int above = points.leastAbove(x, y);
        return below == NONE || above == NONE ? OUTSIDE : foundBetween(below, above);
    }

    private int locateInNet(int near, int x, int y) {
        int first = net.holder(near, x, y);
        if (net.isOuter(first)) {
            return OUTSIDE;
        }
        for (int step = 0; step < 3; step++) {
            int edge = Net.ahead(first, step);
            if (points.turn(net.startOf(edge), net.endOf(edge), x, y) == 0) {
                return foundBetween(net.startOf(edge), net.endOf(edge));
            }
        }
        int told = net.lowestFirst(first);
        for (int step = 0; step < found.length; step++) {
            found[step] = net.startOf(Net.ahead(told, step));
        }
        return IN_TRIANGLE;
    }

    private int foundBetween(int one, int other) {
        found[0] = Math.min(one, other);
        found[1] = Math.max(one, other);
        return BETWEEN;
    }

    /** A row of numbers that grows by pages: a call makes few of them, and a run no more than its points need. */
    private static final class Row {
        private static final int PAGE = 32;

        private final int[][] pages;
        private int made;

        Row(int most) {
            pages = new int[most > 0 ? (most - 1) / PAGE + 1 : 0][];
            made = 0;
        }

        /** From now on there is room for so many. */
        void reach(int many) {
            for (; made < pages.length && made * PAGE < many; made++) {
                pages[made] = new int[PAGE];
            }
        }

        int get(int index) {
            if (index < 0 || index / PAGE >= pages.length) {
                return 0;
            }
            int[] page = pages[index / PAGE];
            int place = index % PAGE;
            return page != null && place < page.length ? page[place] : 0;
        }

        void put(int index, int value) {
            if (index < 0 || index / PAGE >= pages.length) {
                return;
            }
            int[] page = pages[index / PAGE];
            int place = index % PAGE;
            if (page != null && place < page.length) {
                page[place] = value;
            }
        }
    }

    /** A sum of products in 128 bits: the test of a circle would not fit into a long. */
    private static final class Wide {
        private static final long LOW_HALF = 0xFFFFFFFFL;

        private long high;
        private long low;

        Wide() {
            high = 0;
            low = 0;
        }

        void reset() {
            high = 0;
            low = 0;
        }

        void addProduct(long a, long b) {
            long aHigh = a >> 32;
            long aLow = a & LOW_HALF;
            long bHigh = b >> 32;
            long bLow = b & LOW_HALF;
            long first = aHigh * bLow + ((aLow * bLow) >>> 32);
            long second = aLow * bHigh + (first & LOW_HALF);
            long productHigh = aHigh * bHigh + (first >> 32) + (second >> 32);
            long productLow = a * b;
            long sum = low + productLow;
            long carry = ((low & productLow) | ((low | productLow) & ~sum)) >>> 63;
            low = sum;
            high = high + productHigh + carry;
        }

        int sign() {
            if (high < 0) {
                return -1;
            }
            return high == 0 && low == 0 ? 0 : 1;
        }
    }

    /** Where the points are, and what follows from that alone. */
    private static final class Points {
        final int room;
        int size;
        private final Row xs;
        private final Row ys;
        private final Wide sum;

        Points(int room) {
            this.room = room;
            size = 0;
            xs = new Row(room);
            ys = new Row(room);
            sum = new Wide();
        }

        boolean isFull() {
            return size >= room;
        }

        void makeRoom(int many) {
            xs.reach(many);
            ys.reach(many);
        }

        int append(int x, int y) {
            int number = size;
            xs.put(number, x);
            ys.put(number, y);
            size = number + 1;
            return number;
        }

        int x(int number) {
            return xs.get(number);
        }

        int y(int number) {
            return ys.get(number);
        }

        boolean isAt(int number, int x, int y) {
            return number >= 0 && number < size && xs.get(number) == x && ys.get(number) == y;
        }

        boolean isLess(int a, int b) {
            return xs.get(a) < xs.get(b) || xs.get(a) == xs.get(b) && ys.get(a) < ys.get(b);
        }

        private boolean isBelow(int number, int x, int y) {
            return xs.get(number) < x || xs.get(number) == x && ys.get(number) < y;
        }

        private boolean isAbove(int number, int x, int y) {
            return xs.get(number) > x || xs.get(number) == x && ys.get(number) > y;
        }

        /** The square of a distance: at most 8e18, which a long holds. */
        long gap(int number, int x, int y) {
            long dx = (long) xs.get(number) - x;
            long dy = (long) ys.get(number) - y;
            return dx * dx + dy * dy;
        }

        /** Of the first points, so many of them, the nearest; of equally near ones the lowest. */
        int nearestOf(int many, int x, int y) {
            int best = NONE;
            long bestGap = 0;
            for (int i = 0; i < many; i++) {
                long gap = gap(i, x, y);
                if (best == NONE || gap < bestGap) {
                    best = i;
                    bestGap = gap;
                }
            }
            return best;
        }

        int leastAbove(int x, int y) {
            int best = NONE;
            for (int i = 0; i < size; i++) {
                if (isAbove(i, x, y) && (best == NONE || isLess(i, best))) {
                    best = i;
                }
            }
            return best;
        }

        int greatestBelow(int x, int y) {
            int best = NONE;
            for (int i = 0; i < size; i++) {
                if (isBelow(i, x, y) && (best == NONE || isLess(best, i))) {
                    best = i;
                }
            }
            return best;
        }

        /** Above 0, when a place is left of the way from a to b; below, when right (at most 8e18 each way). */
        long turn(int a, int b, int x, int y) {
            long bx = (long) xs.get(b) - xs.get(a);
            long by = (long) ys.get(b) - ys.get(a);
            long cx = (long) x - xs.get(a);
            long cy = (long) y - ys.get(a);
            return bx * cy - by * cx;
        }

        private long dot(int from, int a, int b) {
            long ax = (long) xs.get(a) - xs.get(from);
            long ay = (long) ys.get(a) - ys.get(from);
            long bx = (long) xs.get(b) - xs.get(from);
            long by = (long) ys.get(b) - ys.get(from);
            return ax * bx + ay * by;
        }

        /** Whether d takes the triangle a, b, c (left round) away: it is in its circle, or on it and parts it. */
        boolean takesAway(int d, int a, int b, int c) {
            sum.reset();
            // The sign of the sine of the angles at c and d together, which are half a turn when d is on the circle.
            sum.addProduct(turn(c, a, xs.get(b), ys.get(b)), dot(d, a, b));
            sum.addProduct(turn(d, b, xs.get(a), ys.get(a)), dot(c, a, b));
            int sign = sum.sign();
            if (sign != 0) {
                return sign < 0;
            }
            // On one circle: the least of the four is in both triangles.
            if (isLess(d, a) && isLess(d, b) && isLess(d, c)) {
                return true;
            }
            if (isLess(a, b) && isLess(a, c)) {
                return turn(b, c, xs.get(d), ys.get(d)) < 0;
            }
            return isLess(b, c) ? turn(c, a, xs.get(d), ys.get(d)) < 0 : turn(a, b, xs.get(d), ys.get(d)) < 0;
        }
    }

    /**
     * The triangles, three edges each (3t, 3t + 1, 3t + 2), left round. The outside is made of triangles too, of
     * two neighbouring outer points and a ghost, so that a point outside comes in as any other does.
     */
    private static final class Net {
        private final Points points;
        private final int ghost;
        private final Row starts;
        private final Row twins;
        private final Row leaving;
        private final Row marks;
        private final Row pit;
        private final Row rim;
        private int mark;
        private int all;
        private int outer;
        private int pitSize;
        private int rimSize;

        Net(Points points) {
            this.points = points;
            ghost = points.room;
            starts = new Row(6 * points.room);
            twins = new Row(6 * points.room);
            leaving = new Row(points.room + 1);
            marks = new Row(2 * points.room);
            pit = new Row(2 * points.room);
            rim = new Row(2 * points.room);
            mark = 0;
            all = 0;
            outer = 0;
            pitSize = 0;
            rimSize = 0;
        }

        static int ahead(int edge, int steps) {
            int first = edge - edge % 3;
            return first + (edge - first + steps) % 3;
        }

        boolean isEmpty() {
            return all == 0;
        }

        int solidCount() {
            return all - outer;
        }

        int edgeCount() {
            return 3 * all;
        }

        int startOf(int edge) {
            return starts.get(edge);
        }

        int endOf(int edge) {
            return starts.get(ahead(edge, 1));
        }

        void removeAll() {
            all = 0;
            outer = 0;
        }

        /** There are never as many triangles, the ghost's with them, as two for each point. */
        void makeRoom(int many) {
            starts.reach(6 * many);
            twins.reach(6 * many);
            leaving.reach(many + 1);
            marks.reach(2 * many);
            pit.reach(2 * many);
            rim.reach(2 * many);
        }

        /** The first triangle a, b, c (left round) and the outside at its three edges. */
        void begin(int a, int b, int c) {
            all = 4;
            outer = 3;
            setTriangle(0, a, b, c);
            setTriangle(1, b, a, ghost);
            setTriangle(2, c, b, ghost);
            setTriangle(3, a, c, ghost);
            join(0, 3);
            join(1, 6);
            join(2, 9);
            join(4, 11);
            join(7, 5);
            join(10, 8);
        }

        private void setTriangle(int triangle, int a, int b, int c) {
            int edge = 3 * triangle;
            starts.put(edge, a);
            starts.put(edge + 1, b);
            starts.put(edge + 2, c);
            leaving.put(placeOf(a), edge);
            leaving.put(placeOf(c), edge + 2);
        }

        /** Among the edges that leave: the ghost's comes first, as the row grows with the points. */
        private int placeOf(int number) {
            return number == ghost ? 0 : number + 1;
        }

        private void join(int edge, int twin) {
            twins.put(edge, twin);
            twins.put(twin, edge);
        }

        /** A point more, which is not in the net yet; near is in it. */
        void insert(int number, int near) {
            dig(holder(near, points.x(number), points.y(number)) / 3, number);
            fill(number);
        }

        /** The triangles that the point takes away hang together and are seen whole from it. */
        private void dig(int triangle, int number) {
            mark++;
            pitSize = 0;
            rimSize = 0;
            takeAway(triangle);
            // The pit grows on the way, but has no triangle twice.
            for (int i = 0; i < all && i < pitSize; i++) {
                for (int step = 0; step < 3; step++) {
                    int beyond = twins.get(3 * pit.get(i) + step);
                    if (marks.get(beyond / 3) == mark) {
                        continue;
                    }
                    int second = ahead(beyond, 1);
                    boolean taken = isOuter(beyond) ? isSeen(beyond, number)
                        : points.takesAway(number, startOf(beyond), startOf(second), endOf(second));
                    if (taken) {
                        takeAway(beyond / 3);
                    } else {
                        rim.put(rimSize, beyond);
                        rimSize++;
                    }
                }
            }
        }

        private void takeAway(int triangle) {
            marks.put(triangle, mark);
            pit.put(pitSize, triangle);
            pitSize++;
            if (isOuter(3 * triangle)) {
                outer--;
            }
        }

        /** The pit becomes a fan of triangles round the point, in the same places and two more. */
        private void fill(int number) {
            for (int i = 0; i < rimSize; i++) {
                int beyond = rim.get(i);
                int triangle = i < pitSize ? pit.get(i) : all++;
                setTriangle(triangle, endOf(beyond), startOf(beyond), number);
                join(3 * triangle, beyond);
                // From here on pit lists the new triangles, for the second round.
                pit.put(i, triangle);
                if (isOuter(3 * triangle)) {
                    outer++;
                }
            }
            for (int i = 0; i < rimSize; i++) {
                int edge = 3 * pit.get(i) + 1;
                join(edge, leaving.get(placeOf(startOf(edge))) + 2);
            }
        }

        /** Whether a point lies in a triangle of the ghost's: beyond its edge or on it. */
        private boolean isSeen(int edge, int number) {
            int base = baseOf(edge);
            int from = startOf(base);
            int to = endOf(base);
            long turn = points.turn(from, to, points.x(number), points.y(number));
            return turn > 0 || turn == 0 && points.isLess(from, number) == points.isLess(number, to);
        }

        /** Whether the triangle of an edge is one of the ghost's. */
        boolean isOuter(int edge) {
            int first = edge - edge % 3;
            return starts.get(first) == ghost || starts.get(first + 1) == ghost || starts.get(first + 2) == ghost;
        }

        /** Of a triangle of the ghost's the edge without it. */
        private int baseOf(int edge) {
            int fromGhost = edge;
            for (int step = 0; step < 2 && starts.get(fromGhost) != ghost; step++) {
                fromGhost = ahead(fromGhost, 1);
            }
            return ahead(fromGhost, 1);
        }

        /** An edge of the triangle that has the place inside or on its side; one of the ghost's when it is outside. */
        int holder(int near, int x, int y) {
            int edge = leaving.get(placeOf(near));
            if (isOuter(edge)) {
                edge = twins.get(baseOf(edge));
            }
            // The circles come nearer and nearer to the place, so no triangle is met twice.
            for (int walked = 0; walked < all && !isOuter(edge); walked++) {
                int out = wayOut(edge, x, y);
                if (out == NONE) {
                    return edge;
                }
                edge = twins.get(out);
            }
            return edge;
        }

        /** An edge of a triangle that has the place on its other side; NONE, when the place is in the triangle. */
        private int wayOut(int edge, int x, int y) {
            for (int step = 0; step < 3; step++) {
                int side = ahead(edge, step);
                if (points.turn(startOf(side), endOf(side), x, y) < 0) {
                    return side;
                }
            }
            return NONE;
        }

        int lowestFirst(int edge) {
            int lowest = edge;
            for (int step = 1; step < 3; step++) {
                int other = ahead(edge, step);
                if (startOf(other) < startOf(lowest)) {
                    lowest = other;
                }
            }
            return lowest;
        }

        /** The next edge from the same point, left round it. */
        private int leftOf(int edge) {
            return twins.get(ahead(edge, 2));
        }

        int degree(int number) {
            int first = leaving.get(placeOf(number));
            int edge = first;
            int many = 0;
            for (int turned = 0; turned <= ghost; turned++) {
                if (endOf(edge) != ghost) {
                    many++;
                }
                edge = leftOf(edge);
                if (edge == first) {
                    break;
                }
            }
            return many;
        }

        /** The k-th neighbour; it is there. */
        int leftRound(int number, int k) {
            int edge = lowestFrom(number);
            int left = k;
            // The ghost may cost one turn more.
            for (int turned = 0; turned <= ghost && left > 0; turned++) {
                edge = leftOf(edge);
                if (endOf(edge) != ghost) {
                    left--;
                }
            }
            return endOf(edge);
        }

        private int lowestFrom(int number) {
            int first = leaving.get(placeOf(number));
            int lowest = first;
            int edge = first;
            for (int turned = 0; turned <= ghost; turned++) {
                // The ghost's number is above all others.
                if (endOf(edge) < endOf(lowest)) {
                    lowest = edge;
                }
                edge = leftOf(edge);
                if (edge == first) {
                    break;
                }
            }
            return lowest;
        }

        /** Of an outer point the edge to the ghost. */
        int wayToGhost(int number) {
            int edge = leaving.get(placeOf(number));
            for (int turned = 0; turned <= ghost && endOf(edge) != ghost; turned++) {
                edge = leftOf(edge);
            }
            return edge;
        }

        /** From an outer point's edge to the ghost to that of the next outer point, left round. */
        int nextWayToGhost(int edge) {
            return twins.get(ahead(edge, 1));
        }
    }

    /** The triangles in the order in which they are told, each by its edge from the lowest number. */
    private static final class Roll {
        private final Points points;
        private final Net net;
        private final Row edges;
        private final Row spare;
        private final Row ends;
        private boolean fresh;

        Roll(Points points, Net net) {
            this.points = points;
            this.net = net;
            edges = new Row(2 * points.room);
            spare = new Row(2 * points.room);
            ends = new Row(points.room + 1);
            fresh = false;
        }

        void makeRoom(int many) {
            edges.reach(2 * many);
            spare.reach(2 * many);
            ends.reach(many + 1);
        }

        void forget() {
            fresh = false;
        }

        int edge(int k) {
            if (!fresh) {
                sortAll();
            }
            return edges.get(k);
        }

        private void sortAll() {
            int many = gather();
            // No two have the first and the second number alike, so the third never decides.
            sortInto(edges, spare, many, 1);
            sortInto(spare, edges, many, 0);
            fresh = true;
        }

        private int gather() {
            int many = 0;
            for (int edge = 0; edge < net.edgeCount(); edge += 3) {
                if (!net.isOuter(edge)) {
                    edges.put(many, net.lowestFirst(edge));
                    many++;
                }
            }
            return many;
        }

        /** By one of the numbers, leaving alike ones in their order. */
        private void sortInto(Row from, Row to, int many, int what) {
            for (int key = 0; key <= points.size; key++) {
                ends.put(key, 0);
            }
            for (int i = 0; i < many; i++) {
                int key = net.startOf(Net.ahead(from.get(i), what));
                ends.put(key + 1, ends.get(key + 1) + 1);
            }
            for (int key = 1; key < points.size; key++) {
                ends.put(key, ends.get(key) + ends.get(key - 1));
            }
            for (int i = 0; i < many; i++) {
                int edge = from.get(i);
                int key = net.startOf(Net.ahead(edge, what));
                int place = ends.get(key);
                to.put(place, edge);
                ends.put(key, place + 1);
            }
        }
    }

    /** The corners of all points. */
    private static final class Outline {
        private final Points points;
        private final Net net;
        private final Row corners;
        private int size;
        private boolean fresh;

        Outline(Points points, Net net) {
            this.points = points;
            this.net = net;
            corners = new Row(points.room);
            size = 0;
            fresh = false;
        }

        void makeRoom(int many) {
            corners.reach(many);
        }

        void forget() {
            fresh = false;
        }

        int many() {
            draw();
            return size;
        }

        int at(int k) {
            draw();
            return corners.get(k);
        }

        private void draw() {
            if (fresh) {
                return;
            }
            size = 0;
            if (net.isEmpty()) {
                drawLine();
            } else {
                drawRound();
            }
            fresh = true;
        }

        private void drawLine() {
            int least = points.leastAbove(-BEYOND, 0);
            int greatest = points.greatestBelow(BEYOND, 0);
            if (least != NONE) {
                put(least);
            }
            if (greatest != least) {
                put(greatest);
            }
        }

        private void drawRound() {
            int first = net.wayToGhost(points.leastAbove(-BEYOND, 0));
            int edge = first;
            int before = NONE;
            for (int step = 0; step < points.size; step++) {
                int next = net.nextWayToGhost(edge);
                int here = net.startOf(edge);
                // Outer points may be on the line between two corners; the least one never is.
                if (before == NONE || isCorner(before, here, net.startOf(next))) {
                    put(here);
                }
                before = here;
                edge = next;
                if (edge == first) {
                    break;
                }
            }
        }

        /** Of an outer point, between those before and after it. */
        private boolean isCorner(int before, int here, int after) {
            return points.turn(before, here, points.x(after), points.y(after)) != 0;
        }

        private void put(int number) {
            corners.put(size, number);
            size++;
        }
    }
}
