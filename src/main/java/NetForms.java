import java.util.Arrays;

/** Forms on nets: whole numbers on points, edges and plates, and what can be told of them exactly. */
public final class NetForms {
    public static final int NONE = -1, BAD = -2, NO = -3, FULL = -4, BEYOND = -5;

    private static final int MOST_POINTS = 6;
    private static final int MOST_EDGES = 12;
    private static final int MOST_PLATES = 10;
    private static final int MOST_NUMBERS = 12;
    private static final int FORMS = 12;
    private static final int TOP_DEGREE = 2;
    private static final int FORM_LIMIT = 1000000;
    private static final int SPLIT_LIMIT = 1000;
    private static final int FACTOR_LIMIT = 1000;
    private static final int WALL_LIMIT = 1000;
    private static final int STEP_LIMIT = 100;
    private static final int BAD_NUMBER = -2000000;
    private static final int NO_WALL = -1000000;

    private final Net shape = new Net();
    private final Form[] forms = new Form[FORMS];
    private final Walls walls = new Walls();
    private final Wave motion = new Wave();
    private final Balance balance = new Balance();
    private final Climb climb = new Climb();
    // Results are made here first: a refused call must leave its target as it was, and the target may be a source.
    private final long[] made = new long[MOST_NUMBERS];

    public NetForms() {
        for (int f = 0; f < FORMS; f++) {
            forms[f] = new Form();
        }
        shape.begin(1);
    }

    public int net(int n) {
        if (n < 1 || n > MOST_POINTS) {
            return BAD;
        }
        shape.begin(n);
        for (int f = 0; f < FORMS; f++) {
            forms[f].begin(0);
        }
        walls.begin();
        motion.begin();
        return 1;
    }

    public int edge(int a, int b) {
        if (!shape.has(0, a) || !shape.has(0, b) || a >= b) {
            return BAD;
        }
        if (shape.edgeBetween(a, b) != NONE) {
            return NO;
        }
        if (shape.edges >= MOST_EDGES) {
            return FULL;
        }
        return shape.addEdge(a, b);
    }

    public int face(int a, int b, int c) {
        if (!shape.has(0, a) || !shape.has(0, b) || !shape.has(0, c) || a >= b || b >= c) {
            return BAD;
        }
        int ab = shape.edgeBetween(a, b);
        int bc = shape.edgeBetween(b, c);
        int ac = shape.edgeBetween(a, c);
        if (ab == NONE || bc == NONE || ac == NONE || shape.hasPlateOf(ab, bc)) {
            return NO;
        }
        if (shape.plates >= MOST_PLATES) {
            return FULL;
        }
        return shape.addPlate(ab, bc, ac);
    }

    public int corner(int degree, int k, int i) {
        if (degree < 1 || degree > TOP_DEGREE || !shape.has(degree, k)) {
            return BAD;
        }
        return i < 0 || i > degree ? NONE : shape.pointOf(degree, k, i);
    }

    public int form(int f, int degree) {
        Form form = formAt(f);
        if (form == null || degree < 0 || degree > TOP_DEGREE) {
            return BAD;
        }
        form.begin(degree);
        return 1;
    }

    public int set(int f, int k, int v) {
        Form form = formAt(f);
        if (form == null || !shape.has(form.degree, k) || !isWithin(v, FORM_LIMIT)) {
            return BAD_NUMBER;
        }
        int before = form.numbers[k];
        form.numbers[k] = v;
        return before;
    }

    public int get(int f, int k) {
        Form form = formAt(f);
        if (form == null || !shape.has(form.degree, k)) {
            return BAD_NUMBER;
        }
        return form.numbers[k];
    }

    public int slope(int f, int g) {
        Form source = formAt(f);
        Form target = formAt(g);
        if (source == null || target == null) {
            return BAD;
        }
        if (source.degree == TOP_DEGREE) {
            return NO;
        }
        makeSlope(source);
        return giveMade(target, source.degree + 1);
    }

    public int rim(int f, int g) {
        Form source = formAt(f);
        Form target = formAt(g);
        if (source == null || target == null) {
            return BAD;
        }
        if (source.degree == 0) {
            return NO;
        }
        makeRim(source);
        return giveMade(target, source.degree - 1);
    }

    public int cup(int f, int g, int to) {
        Form left = formAt(f);
        Form right = formAt(g);
        Form target = formAt(to);
        if (left == null || right == null || target == null) {
            return BAD;
        }
        int degree = left.degree + right.degree;
        if (degree > TOP_DEGREE) {
            return NO;
        }
        for (int k = 0; k < shape.size(degree); k++) {
            long ahead = left.numbers[shape.frontOf(degree, k, left.degree)];
            made[k] = ahead * right.numbers[shape.backOf(degree, k, right.degree)];
        }
        return giveMade(target, degree);
    }

    public int mix(int f, int p, int g, int q, int to) {
        Form left = formAt(f);
        Form right = formAt(g);
        Form target = formAt(to);
        if (left == null || right == null || target == null) {
            return BAD;
        }
        if (!isWithin(p, FACTOR_LIMIT) || !isWithin(q, FACTOR_LIMIT)) {
            return BAD;
        }
        if (left.degree != right.degree) {
            return NO;
        }
        for (int k = 0; k < shape.size(left.degree); k++) {
            made[k] = (long) p * left.numbers[k] + (long) q * right.numbers[k];
        }
        return giveMade(target, left.degree);
    }

    public int about(int f, int what) {
        Form form = formAt(f);
        if (form == null || what < 0 || what > 3) {
            return BAD;
        }
        if (what == 0) {
            return form.degree;
        }
        if (what == 1) {
            return form.fitsIn(0) ? 1 : 0;
        }
        if (what == 2) {
            return hasNoSlope(form) ? 1 : 0;
        }
        return hasNoRim(form) ? 1 : 0;
    }

    public int holes(int degree) {
        if (degree < 0 || degree > TOP_DEGREE) {
            return BAD;
        }
        int parts = shape.countParts();
        if (degree == 0) {
            return parts;
        }
        int turns = countTurns();
        if (degree == TOP_DEGREE) {
            return shape.plates - turns;
        }
        return shape.edges - (shape.points - parts) - turns;
    }

    public int potential(int f, int g) {
        Form source = formAt(f);
        Form target = formAt(g);
        if (source == null || target == null) {
            return BAD;
        }
        if (source.degree != 1) {
            return NO;
        }
        int forbidding = climb.along(shape, source);
        if (forbidding != NONE) {
            return forbidding;
        }
        for (int p = 0; p < shape.points; p++) {
            made[p] = climb.aboveLeast(p);
        }
        return giveMade(target, 0) == BEYOND ? BEYOND : NONE;
    }

    public long split(int f, int part, int edge, int what) {
        Form form = formAt(f);
        if (form == null || part < 0 || part > 2 || !shape.has(1, edge) || what < 0 || what > 1) {
            return 0;
        }
        if (form.degree != 1) {
            return 0;
        }
        if (!form.fitsIn(SPLIT_LIMIT)) {
            return BEYOND;
        }
        if (part == 0) {
            long above = slopePart(form, edge);
            return lowestTerms(above, balance.below, what);
        }
        if (part == 1) {
            long above = turnPart(form, edge);
            return lowestTerms(above, balance.below, what);
        }
        return stillPart(form, edge, what);
    }

    public int wall(int point, int v) {
        if (!shape.has(0, point) || !isWithin(v, WALL_LIMIT)) {
            return BAD;
        }
        walls.there[point] = true;
        walls.numbers[point] = v;
        return 1;
    }

    public int open(int point) {
        if (!shape.has(0, point)) {
            return BAD_NUMBER;
        }
        if (!walls.there[point]) {
            return NO_WALL;
        }
        walls.there[point] = false;
        return walls.numbers[point];
    }

    public int field() {
        return walls.leastWithout(shape);
    }

    public long fieldAt(int point, int what) {
        if (!shape.has(0, point) || what < 0 || what > 1) {
            return 0;
        }
        if (walls.leastWithout(shape) != NONE) {
            return 0;
        }
        balanceField();
        return lowestTerms(balance.above(point), balance.below, what);
    }

    public int wave(int n) {
        if (n == 0 || !isWithin(n, STEP_LIMIT)) {
            return BAD;
        }
        for (int i = 0; i < n; i++) {
            motion.stepOn(shape);
        }
        for (int i = 0; i > n; i--) {
            motion.stepBack(shape);
        }
        return motion.steps;
    }

    public int raise(int f) {
        Form form = formAt(f);
        if (form == null) {
            return BAD;
        }
        if (form.degree == TOP_DEGREE) {
            return NO;
        }
        motion.begin();
        for (int k = 0; k < shape.size(form.degree); k++) {
            if (form.degree == 0) {
                motion.levels[k] = form.numbers[k];
            } else {
                motion.flows[k] = form.numbers[k];
            }
        }
        return 1;
    }

    public long height(int point) {
        return shape.has(0, point) ? motion.levels[point] : 0;
    }

    public long flow(int edge) {
        return shape.has(1, edge) ? motion.flows[edge] : 0;
    }

    public long sum() {
        long all = 0;
        for (int p = 0; p < shape.points; p++) {
            all += motion.levels[p];
        }
        return all;
    }

    public int count(int what) {
        if (what < 0 || what > 4) {
            return BAD;
        }
        if (what <= TOP_DEGREE) {
            return shape.size(what);
        }
        return what == 3 ? walls.countThere(shape) : shape.countParts();
    }

    public long digest() {
        long h = 109;
        for (int what = 0; what <= 4; what++) {
            h = 31 * h + count(what);
        }
        h = foldCorners(h, 1);
        h = foldCorners(h, 2);
        h = foldForms(h);
        h = foldWalls(h);
        for (int p = 0; p < shape.points; p++) {
            h = 31 * h + motion.levels[p];
        }
        for (int e = 0; e < shape.edges; e++) {
            h = 31 * h + motion.flows[e];
        }
        return h;
    }

    private Form formAt(int f) {
        return f < 0 || f >= FORMS ? null : forms[f];
    }

    private static boolean isWithin(long v, int limit) {
        return v >= -limit && v <= limit;
    }

    private void makeSlope(Form form) {
        int degree = form.degree;
        for (int k = 0; k < shape.size(degree + 1); k++) {
            long total = 0;
            for (int side = 0; side < shape.size(degree); side++) {
                total += (long) shape.signOf(degree + 1, k, side) * form.numbers[side];
            }
            made[k] = total;
        }
    }

    private void makeRim(Form form) {
        int degree = form.degree;
        for (int side = 0; side < shape.size(degree - 1); side++) {
            long total = 0;
            for (int k = 0; k < shape.size(degree); k++) {
                total += (long) shape.signOf(degree, k, side) * form.numbers[k];
            }
            made[side] = total;
        }
    }

    private int giveMade(Form target, int degree) {
        int size = shape.size(degree);
        for (int k = 0; k < size; k++) {
            if (!isWithin(made[k], FORM_LIMIT)) {
                return BEYOND;
            }
        }
        target.begin(degree);
        for (int k = 0; k < size; k++) {
            target.numbers[k] = (int) made[k];
        }
        return degree;
    }

    private boolean isMadeZero(int size) {
        for (int k = 0; k < size; k++) {
            if (made[k] != 0) {
                return false;
            }
        }
        return true;
    }

    private boolean hasNoSlope(Form form) {
        if (form.degree == TOP_DEGREE) {
            return true;
        }
        makeSlope(form);
        return isMadeZero(shape.size(form.degree + 1));
    }

    private boolean hasNoRim(Form form) {
        if (form.degree == 0) {
            return true;
        }
        makeRim(form);
        return isMadeZero(shape.size(form.degree - 1));
    }

    // The plates' rims and their products by one another have the same rank.
    private int countTurns() {
        balance.begin(shape.plates);
        addPlateProducts();
        balance.solve();
        return balance.rank;
    }

    private void addPlateProducts() {
        for (int p = 0; p < shape.plates; p++) {
            for (int q = 0; q < shape.plates; q++) {
                for (int e = 0; e < shape.edges; e++) {
                    balance.add(p, q, shape.signOf(2, p, e) * shape.signOf(2, q, e));
                }
            }
        }
    }

    // What is left of w behind its slope part s has no rim, so the potential of s has the rim of its slope equal
    // to the rim of w. The answer stands above balance.below.
    private long slopePart(Form w, int edge) {
        balance.begin(shape.points);
        for (int e = 0; e < shape.edges; e++) {
            int a = shape.begins[e];
            int b = shape.ends[e];
            balance.add(a, a, 1);
            balance.add(b, b, 1);
            balance.add(a, b, -1);
            balance.add(b, a, -1);
            balance.addDue(a, -w.numbers[e]);
            balance.addDue(b, w.numbers[e]);
        }
        balance.solve();
        return balance.above(shape.ends[edge]) - balance.above(shape.begins[edge]);
    }

    // Likewise what is left behind the turn part has no slope. The answer stands above balance.below.
    private long turnPart(Form w, int edge) {
        balance.begin(shape.plates);
        addPlateProducts();
        for (int p = 0; p < shape.plates; p++) {
            for (int e = 0; e < shape.edges; e++) {
                balance.addDue(p, (long) shape.signOf(2, p, e) * w.numbers[e]);
            }
        }
        balance.solve();
        long above = 0;
        for (int p = 0; p < shape.plates; p++) {
            above += shape.signOf(2, p, edge) * balance.above(p);
        }
        return above;
    }

    private long stillPart(Form w, int edge, int what) {
        long slopeAbove = slopePart(w, edge);
        long slopeBelow = balance.below;
        long turnAbove = turnPart(w, edge);
        long turnBelow = balance.below;
        long below = slopeBelow * turnBelow;
        long above = w.numbers[edge] * below - slopeAbove * turnBelow - turnAbove * slopeBelow;
        return lowestTerms(above, below, what);
    }

    private void balanceField() {
        balance.begin(shape.points);
        for (int p = 0; p < shape.points; p++) {
            if (walls.there[p]) {
                balance.add(p, p, 1);
                balance.addDue(p, walls.numbers[p]);
            }
        }
        for (int e = 0; e < shape.edges; e++) {
            balanceAt(shape.begins[e], shape.ends[e]);
            balanceAt(shape.ends[e], shape.begins[e]);
        }
        balance.solve();
    }

    // A wall beside a free point goes to the due side, for the solver wants both sides of the diagonal alike.
    private void balanceAt(int point, int beside) {
        if (walls.there[point]) {
            return;
        }
        balance.add(point, point, 1);
        if (walls.there[beside]) {
            balance.addDue(point, walls.numbers[beside]);
        } else {
            balance.add(point, beside, -1);
        }
    }

    private static long lowestTerms(long above, long below, int what) {
        long shared = sharedDivisor(above, below);
        return quotient(what == 0 ? above : below, shared);
    }

    private static long sharedDivisor(long above, long below) {
        long a = Math.abs(above);
        long b = Math.abs(below);
        // Euclid's way needs fewer than a hundred turns for any two longs.
        for (int i = 0; i < 100 && b != 0; i++) {
            long rest = a % b;
            a = b;
            b = rest;
        }
        return a;
    }

    private static long quotient(long above, long below) {
        return below == 0 ? 0 : above / below;
    }

    private long foldCorners(long start, int degree) {
        long h = start;
        for (int k = 0; k < shape.size(degree); k++) {
            for (int i = 0; i <= degree; i++) {
                h = 31 * h + shape.pointOf(degree, k, i);
            }
        }
        return h;
    }

    private long foldForms(long start) {
        long h = start;
        for (int f = 0; f < FORMS; f++) {
            Form form = forms[f];
            h = 31 * h + form.degree;
            for (int k = 0; k < shape.size(form.degree); k++) {
                h = 31 * h + form.numbers[k];
            }
        }
        return h;
    }

    private long foldWalls(long start) {
        long h = start;
        for (int p = 0; p < shape.points; p++) {
            if (walls.there[p]) {
                h = 31 * h + p;
                h = 31 * h + walls.numbers[p];
            }
        }
        return h;
    }

    /** Points, edges and plates. A plate is held by its edges, from which its points can be told. */
    private static final class Net {
        int points;
        int edges;
        int plates;
        final int[] begins = new int[MOST_EDGES];
        final int[] ends = new int[MOST_EDGES];
        final int[] firsts = new int[MOST_PLATES];
        final int[] seconds = new int[MOST_PLATES];
        final int[] acrosses = new int[MOST_PLATES];
        // For each point the least point of its part.
        final int[] leasts = new int[MOST_POINTS];

        void begin(int n) {
            points = n;
            edges = 0;
            plates = 0;
            for (int p = 0; p < MOST_POINTS; p++) {
                leasts[p] = p;
            }
        }

        int size(int degree) {
            if (degree == 0) {
                return points;
            }
            return degree == 1 ? edges : plates;
        }

        boolean has(int degree, int k) {
            return k >= 0 && k < size(degree);
        }

        int edgeBetween(int a, int b) {
            for (int e = 0; e < edges; e++) {
                if (begins[e] == a && ends[e] == b) {
                    return e;
                }
            }
            return NONE;
        }

        boolean hasPlateOf(int ab, int bc) {
            for (int p = 0; p < plates; p++) {
                if (firsts[p] == ab && seconds[p] == bc) {
                    return true;
                }
            }
            return false;
        }

        int addEdge(int a, int b) {
            begins[edges] = a;
            ends[edges] = b;
            int kept = Math.min(leasts[a], leasts[b]);
            int lost = Math.max(leasts[a], leasts[b]);
            for (int p = 0; p < points; p++) {
                if (leasts[p] == lost) {
                    leasts[p] = kept;
                }
            }
            return edges++;
        }

        int addPlate(int ab, int bc, int ac) {
            firsts[plates] = ab;
            seconds[plates] = bc;
            acrosses[plates] = ac;
            return plates++;
        }

        int countParts() {
            int parts = 0;
            for (int p = 0; p < points; p++) {
                if (leasts[p] == p) {
                    parts++;
                }
            }
            return parts;
        }

        int pointOf(int degree, int k, int i) {
            int e = degree == 1 ? k : firsts[k];
            if (i == 0) {
                return begins[e];
            }
            return i == 1 ? ends[e] : ends[seconds[k]];
        }

        /** How an edge (degree 1) or a plate (2) counts a point or an edge at its side: 1, turned -1, or not 0. */
        int signOf(int degree, int k, int side) {
            if (degree == 1) {
                return ends[k] == side ? 1 : begins[k] == side ? -1 : 0;
            }
            if (firsts[k] == side || seconds[k] == side) {
                return 1;
            }
            return acrosses[k] == side ? -1 : 0;
        }

        /** Where the foremost points of a point, an edge or a plate stand: its first point, first edge, or itself. */
        int frontOf(int degree, int k, int part) {
            if (part == degree) {
                return k;
            }
            return part == 0 ? pointOf(degree, k, 0) : firsts[k];
        }

        /** Likewise the hindmost: its last point, last edge, or itself. */
        int backOf(int degree, int k, int part) {
            if (part == degree) {
                return k;
            }
            return part == 0 ? pointOf(degree, k, degree) : seconds[k];
        }
    }

    /** Numbers behind those that the net has are kept 0, so that what comes later has 0. */
    private static final class Form {
        int degree;
        final int[] numbers = new int[MOST_NUMBERS];

        void begin(int newDegree) {
            degree = newDegree;
            Arrays.fill(numbers, 0);
        }

        boolean fitsIn(int limit) {
            for (int k = 0; k < MOST_NUMBERS; k++) {
                if (!isWithin(numbers[k], limit)) {
                    return false;
                }
            }
            return true;
        }
    }

    /** A number counts only where a wall is there. */
    private static final class Walls {
        final boolean[] there = new boolean[MOST_POINTS];
        final int[] numbers = new int[MOST_POINTS];

        void begin() {
            for (int p = 0; p < MOST_POINTS; p++) {
                there[p] = false;
            }
        }

        int countThere(Net shape) {
            int all = 0;
            for (int p = 0; p < shape.points; p++) {
                if (there[p]) {
                    all++;
                }
            }
            return all;
        }

        int leastWithout(Net shape) {
            for (int p = 0; p < shape.points; p++) {
                if (shape.leasts[p] == p && !isWalled(shape, p)) {
                    return p;
                }
            }
            return NONE;
        }

        private boolean isWalled(Net shape, int least) {
            for (int p = 0; p < shape.points; p++) {
                if (shape.leasts[p] == least && there[p]) {
                    return true;
                }
            }
            return false;
        }
    }

    private static final class Wave {
        int steps;
        final long[] levels = new long[MOST_POINTS];
        final long[] flows = new long[MOST_EDGES];

        void begin() {
            steps = 0;
            Arrays.fill(levels, 0L);
            Arrays.fill(flows, 0L);
        }

        void stepOn(Net shape) {
            for (int e = 0; e < shape.edges; e++) {
                flows[e] += levels[shape.begins[e]] - levels[shape.ends[e]];
            }
            for (int e = 0; e < shape.edges; e++) {
                levels[shape.ends[e]] += flows[e];
                levels[shape.begins[e]] -= flows[e];
            }
            steps++;
        }

        void stepBack(Net shape) {
            for (int e = 0; e < shape.edges; e++) {
                levels[shape.ends[e]] -= flows[e];
                levels[shape.begins[e]] += flows[e];
            }
            for (int e = 0; e < shape.edges; e++) {
                flows[e] -= levels[shape.begins[e]] - levels[shape.ends[e]];
            }
            steps--;
        }
    }

    /** Climbs a form of degree 1 edge by edge, in the order in which they came. */
    private static final class Climb {
        private final long[] climbed = new long[MOST_POINTS];
        private final int[] leasts = new int[MOST_POINTS];

        /** NONE, or the first edge whose round does not close. */
        int along(Net shape, Form w) {
            for (int p = 0; p < MOST_POINTS; p++) {
                climbed[p] = 0;
                leasts[p] = p;
            }
            for (int e = 0; e < shape.edges; e++) {
                int a = shape.begins[e];
                int b = shape.ends[e];
                long missing = climbed[a] + w.numbers[e] - climbed[b];
                if (leasts[a] != leasts[b]) {
                    join(leasts[a], leasts[b], missing);
                } else if (missing != 0) {
                    return e;
                }
            }
            return NONE;
        }

        /** The part of b is lifted, so that the edge between climbs as it should. */
        private void join(int partOfA, int partOfB, long lift) {
            int least = Math.min(partOfA, partOfB);
            for (int p = 0; p < MOST_POINTS; p++) {
                if (leasts[p] == partOfB) {
                    climbed[p] += lift;
                    leasts[p] = least;
                } else if (leasts[p] == partOfA) {
                    leasts[p] = least;
                }
            }
        }

        long aboveLeast(int p) {
            return climbed[p] - climbed[leasts[p]];
        }
    }

    /**
     * Solves equations whose factors are alike on both sides of the diagonal and are sums of squares, exactly and in
     * whole numbers: every number on the way is a minor of the table, so each division leaves no rest. Such a table
     * has a 0 on its diagonal only where the whole row has become 0, its due too, as all that is asked here has an
     * answer: the unknown there is free, and is taken as 0. Net and limits are so small that no number on the way
     * comes near the bounds of a long.
     */
    private static final class Balance {
        private static final int MOST_UNKNOWNS = 10;

        private int size;
        private final long[][] table = new long[MOST_UNKNOWNS][MOST_UNKNOWNS];
        private final long[] dues = new long[MOST_UNKNOWNS];
        int rank;
        long below;

        void begin(int unknowns) {
            size = Math.min(unknowns, MOST_UNKNOWNS);
            for (int i = 0; i < size; i++) {
                Arrays.fill(table[i], 0L);
                dues[i] = 0;
            }
        }

        void add(int row, int unknown, long factor) {
            table[row][unknown] += factor;
        }

        void addDue(int row, long due) {
            dues[row] += due;
        }

        void solve() {
            rank = 0;
            below = 1;
            for (int k = 0; k < size; k++) {
                long pivot = table[k][k];
                if (pivot != 0) {
                    for (int i = 0; i < size; i++) {
                        clear(i, k, pivot);
                    }
                    below = pivot;
                    rank++;
                }
            }
        }

        private void clear(int row, int k, long pivot) {
            if (row == k) {
                return;
            }
            long lead = table[row][k];
            for (int j = 0; j < size; j++) {
                table[row][j] = quotient(pivot * table[row][j] - lead * table[k][j], below);
            }
            dues[row] = quotient(pivot * dues[row] - lead * dues[k], below);
        }

        long above(int unknown) {
            return dues[unknown];
        }
    }
}
