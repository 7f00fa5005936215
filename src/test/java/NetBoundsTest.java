/** The sentences on the net that name a boundary case: promises 1 to 5 and 26. */
public final class NetBoundsTest {
    private static final int BAD = NetForms.BAD, NO = NetForms.NO, FULL = NetForms.FULL, NONE = NetForms.NONE;

    public static void main(String[] args) {
        Sentences s = new Sentences();
        s.test("A new object: a NET of one POINT", NetBoundsTest::onePoint);
        s.test("A new object: all FORMS of DEGREE 0 with 0", NetBoundsTest::newForms);
        s.test("A new object: no WALLS", NetBoundsTest::noWalls);
        s.test("THE WAVE: 0 at first", NetBoundsTest::newWave);
        s.test("net: n 1 .. 6", NetBoundsTest::leastAndGreatestNet);
        s.test("net: BAD", NetBoundsTest::badNet);
        s.test("net: n POINTS and nothing else", NetBoundsTest::nothingElse);
        s.test("net: all FORMS are 0, of DEGREE 0", NetBoundsTest::formsAreForgotten);
        s.test("net: no WALLS", NetBoundsTest::wallsAreForgotten);
        s.test("net: no WAVE", NetBoundsTest::waveIsForgotten);
        s.test("POINTS 0 .. n - 1: the first and the last are there", NetBoundsTest::pointsThatAreThere);
        s.test("POINTS 0 .. n - 1: no others are there", NetBoundsTest::pointsThatAreNot);
        s.test("EDGES: numbered as they come", NetBoundsTest::edgesAsTheyCome);
        s.test("EDGES: 12 at most; edge: FULL", NetBoundsTest::twelveEdges);
        s.test("edge: BAD", NetBoundsTest::badEdge);
        s.test("edge: BAD: also b not above a", NetBoundsTest::edgeTurned);
        s.test("edge: NO: it is there", NetBoundsTest::edgeIsThere);
        s.test("PLATES: numbered as they come", NetBoundsTest::platesAsTheyCome);
        s.test("PLATES: 10 at most; face: FULL", NetBoundsTest::tenPlates);
        s.test("face: BAD", NetBoundsTest::badFace);
        s.test("face: BAD: also the order", NetBoundsTest::faceOutOfOrder);
        s.test("face: NO: it is there", NetBoundsTest::faceIsThere);
        s.test("face: NO: or an EDGE is not", NetBoundsTest::faceWithoutAnEdge);
        s.test("corner: EDGE (degree 1) or PLATE (2) k", NetBoundsTest::cornersAtTheEnds);
        s.test("corner: NONE: no such i", NetBoundsTest::noSuchCorner);
        s.test("corner: BAD: no such degree", NetBoundsTest::badCornerDegree);
        s.test("corner: BAD: no such k", NetBoundsTest::badCornerNumber);
        s.test("count: of nothing", NetBoundsTest::countOfLeast);
        s.test("count: of a full net", NetBoundsTest::countOfMost);
        s.test("count: parts", NetBoundsTest::countOfParts);
        s.test("count: BAD", NetBoundsTest::badCount);
        s.end();
    }

    private static void dueCounts(Check check, NetForms x, int... due) {
        for (int what = 0; what < 5; what++) {
            check.due("count(" + what + ")", x.count(what), due[what]);
        }
    }

    private static void onePoint(Check check) {
        NetForms x = new NetForms();
        dueCounts(check, x, 1, 0, 0, 0, 1);
        check.due("set(0, 0, 4)", x.set(0, 0, 4), 0);
        check.due("set(0, 1, 4)", x.set(0, 1, 4), -2000000);
        check.due("edge(0, 1)", x.edge(0, 1), BAD);
    }

    private static void newForms(Check check) {
        NetForms x = new NetForms();
        for (int f = 0; f < 12; f++) {
            check.dueForm("form " + f, x, f, 0, 0);
        }
    }

    private static void noWalls(Check check) {
        NetForms x = new NetForms();
        check.due("count(3)", x.count(3), 0);
        check.due("open(0)", x.open(0), -1000000);
        check.due("field()", x.field(), 0);
    }

    private static void newWave(Check check) {
        NetForms x = new NetForms();
        check.due("height(0)", x.height(0), 0);
        check.due("sum()", x.sum(), 0);
        check.due("wave(1)", x.wave(1), 1);
        check.due("height(0) behind wave(1)", x.height(0), 0);
        NetForms y = Check.net(6, 0, 5, 1, 2);
        check.due("wave(-100)", y.wave(-100), -100);
        for (int p = 0; p < 6; p++) {
            check.due("height(" + p + ")", y.height(p), 0);
        }
        check.due("flow(0)", y.flow(0), 0);
        check.due("flow(1)", y.flow(1), 0);
    }

    private static void leastAndGreatestNet(Check check) {
        NetForms x = new NetForms();
        for (int n : new int[] {6, 1, 5, 2}) {
            check.due("net(" + n + ")", x.net(n), 1);
            dueCounts(check, x, n, 0, 0, 0, n);
        }
    }

    private static void badNet(Check check) {
        for (int n : Refusal.outside(1, 6)) {
            Refusal.due(check, "net(" + n + ")", Nets::busy, x -> x.net(n), BAD);
        }
        Refusal.due(check, "net(-6)", Nets::busy, x -> x.net(-6), BAD);
    }

    private static void nothingElse(Check check) {
        NetForms x = Nets.allPlates();
        check.due("net(6)", x.net(6), 1);
        dueCounts(check, x, 6, 0, 0, 0, 6);
        check.due("face(0, 1, 2)", x.face(0, 1, 2), NO);
        check.due("edge(0, 1), its number", x.edge(0, 1), 0);
        x.edge(1, 2);
        x.edge(0, 2);
        check.due("face(0, 1, 2), its number", x.face(0, 1, 2), 0);
        check.due("net(3)", x.net(3), 1);
        dueCounts(check, x, 3, 0, 0, 0, 3);
    }

    private static void formsAreForgotten(Check check) {
        NetForms x = Nets.busy();
        x.net(1);
        for (int f = 0; f < 12; f++) {
            check.dueForm("net(1): form " + f, x, f, 0, 0);
        }
        x = Nets.busy();
        x.net(5);
        for (int f = 0; f < 12; f++) {
            check.dueForm("net(5): form " + f, x, f, 0, 0, 0, 0, 0, 0);
        }
        x = Nets.busy();
        x.net(1);
        check.due("digest() of a net of one point", x.digest(), new NetForms().digest());
    }

    private static void wallsAreForgotten(Check check) {
        NetForms x = Check.net(6);
        for (int p = 0; p < 6; p++) {
            x.wall(p, p);
        }
        x.net(6);
        check.due("count(3)", x.count(3), 0);
        for (int p = 0; p < 6; p++) {
            check.due("open(" + p + ")", x.open(p), -1000000);
        }
        x.wall(5, 3);
        x.net(2);
        x.net(6);
        check.due("open(5) behind net(2), net(6)", x.open(5), -1000000);
    }

    private static void waveIsForgotten(Check check) {
        NetForms x = Nets.busy();
        x.net(5);
        for (int p = 0; p < 5; p++) {
            check.due("height(" + p + ")", x.height(p), 0);
        }
        check.due("sum()", x.sum(), 0);
        for (int b = 1; b < 5; b++) {
            x.edge(0, b);
            check.due("flow(" + (b - 1) + ")", x.flow(b - 1), 0);
        }
        check.due("wave(1)", x.wave(1), 1);
        x = Nets.busy();
        x.net(1);
        x.net(6);
        for (int p = 0; p < 6; p++) {
            check.due("net(1), net(6): height(" + p + ")", x.height(p), 0);
        }
    }

    private static void pointsThatAreThere(Check check) {
        for (int n = 1; n <= 6; n++) {
            NetForms x = Check.net(n);
            for (int p = 0; p < n; p++) {
                String at = n + " points, at " + p + ": ";
                check.due(at + "set", x.set(0, p, p + 1), 0);
                check.due(at + "get", x.get(0, p), p + 1);
                check.due(at + "wall", x.wall(p, p + 1), 1);
            }
            x.raise(0);
            for (int p = 0; p < n; p++) {
                String at = n + " points, at " + p + ": ";
                check.due(at + "height", x.height(p), p + 1);
                check.due(at + "fieldAt", x.fieldAt(p, 0), p + 1);
            }
            for (int p = 0; p < n; p++) {
                check.due(n + " points: open(" + p + ")", x.open(p), p + 1);
            }
            for (int p = 1; p < n; p++) {
                check.due(n + " points: edge(0, " + p + ")", x.edge(0, p), p - 1);
            }
        }
        NetForms x = Check.net(6, 0, 1, 0, 5, 1, 5);
        check.due("6 points: face(0, 1, 5)", x.face(0, 1, 5), 0);
    }

    private static void pointsThatAreNot(Check check) {
        for (int n = 1; n <= 6; n++) {
            NetForms x = Check.net(n);
            for (int p = 0; p < n; p++) {
                x.wall(p, 9);
                x.set(0, p, 9);
            }
            x.raise(0);
            for (int p : Refusal.outside(0, n - 1)) {
                String at = n + " points, at " + p + ": ";
                check.due(at + "edge, first", x.edge(p, n - 1), BAD);
                check.due(at + "edge, second", x.edge(0, p), BAD);
                check.due(at + "set", x.set(0, p, 1), -2000000);
                check.due(at + "get", x.get(0, p), -2000000);
                check.due(at + "wall", x.wall(p, 1), BAD);
                check.due(at + "open", x.open(p), -2000000);
                check.due(at + "fieldAt", x.fieldAt(p, 0), 0);
                check.due(at + "fieldAt, below", x.fieldAt(p, 1), 0);
                check.due(at + "height", x.height(p), 0);
            }
        }
    }

    private static void edgesAsTheyCome(Check check) {
        int[][] pairs = {{4, 5}, {0, 5}, {2, 3}, {0, 1}};
        NetForms x = Check.net(6);
        for (int k = 0; k < pairs.length; k++) {
            check.due("edge(" + pairs[k][0] + ", " + pairs[k][1] + ")", x.edge(pairs[k][0], pairs[k][1]), k);
        }
        for (int k = 0; k < pairs.length; k++) {
            check.due("corner(1, " + k + ", 0)", x.corner(1, k, 0), pairs[k][0]);
            check.due("corner(1, " + k + ", 1)", x.corner(1, k, 1), pairs[k][1]);
        }
    }

    private static void twelveEdges(Check check) {
        NetForms x = Check.net(6, 0, 1, 0, 2, 0, 3, 0, 4, 1, 2, 1, 3, 1, 4, 2, 3, 2, 4, 3, 4, 0, 5);
        check.due("count(1)", x.count(1), 11);
        check.due("the twelfth edge", x.edge(1, 5), 11);
        for (int a : new int[] {2, 3, 4}) {
            Refusal.due(check, "edge(" + a + ", 5) beside twelve", Nets::allEdges, y -> y.edge(a, 5), FULL);
        }
        x.net(6);
        check.due("edge(2, 5) behind net(6)", x.edge(2, 5), 0);
    }

    private static void badEdge(Check check) {
        for (int p : Refusal.outside(0, 4)) {
            Refusal.due(check, "edge(" + p + ", 4)", Nets::busy, x -> x.edge(p, 4), BAD);
            Refusal.due(check, "edge(0, " + p + ")", Nets::busy, x -> x.edge(0, p), BAD);
            Refusal.due(check, "edge(" + p + ", " + p + ")", Nets::busy, x -> x.edge(p, p), BAD);
        }
        Refusal.due(check, "edge(5, 6)", Nets::busy, x -> x.edge(5, 6), BAD);
        Refusal.due(check, "edge(-2, -1)", Nets::busy, x -> x.edge(-2, -1), BAD);
    }

    private static void edgeTurned(Check check) {
        for (int a = 0; a < 5; a++) {
            for (int b = 0; b <= a; b++) {
                int from = a;
                int to = b;
                Refusal.due(check, "edge(" + a + ", " + b + ")", Nets::busy, x -> x.edge(from, to), BAD);
            }
        }
        check.due("edge(3, 4), next to one another", Check.net(5).edge(3, 4), 0);
    }

    private static void edgeIsThere(Check check) {
        int[][] there = {{0, 1}, {1, 2}, {0, 2}, {2, 3}, {0, 3}};
        for (int[] p : there) {
            Refusal.due(check, "edge(" + p[0] + ", " + p[1] + ")", Nets::busy, x -> x.edge(p[0], p[1]), NO);
        }
        NetForms x = Nets.busy();
        check.due("edge(1, 3), of points that have edges", x.edge(1, 3), 5);
        check.due("edge(1, 3) again", x.edge(1, 3), NO);
    }

    private static void platesAsTheyCome(Check check) {
        int[][] plates = {{2, 3, 4}, {0, 1, 2}, {1, 2, 4}, {0, 3, 4}, {0, 1, 5}};
        NetForms x = Nets.allEdges();
        for (int k = 0; k < plates.length; k++) {
            int[] p = plates[k];
            check.due("face(" + p[0] + ", " + p[1] + ", " + p[2] + ")", x.face(p[0], p[1], p[2]), k);
        }
        for (int k = 0; k < plates.length; k++) {
            for (int i = 0; i < 3; i++) {
                check.due("corner(2, " + k + ", " + i + ")", x.corner(2, k, i), plates[k][i]);
            }
        }
    }

    private static void tenPlates(Check check) {
        NetForms x = Nets.allEdges();
        x.face(0, 1, 5);
        int made = 1;
        for (int abc = 0; abc < 125; abc++) {
            int a = abc / 25;
            int b = abc / 5 % 5;
            int c = abc % 5;
            if (a < b && b < c) {
                check.due("plate " + made, x.face(a, b, c), made < 10 ? made : FULL);
                made++;
            }
        }
        check.due("count(2)", x.count(2), 10);
        Refusal.due(check, "face(0, 1, 5) beside ten", Nets::allPlates, y -> y.face(0, 1, 5), FULL);
    }

    private static void badFace(Check check) {
        for (int p : Refusal.outside(0, 4)) {
            Refusal.due(check, "face(" + p + ", 1, 2)", Nets::busy, x -> x.face(p, 1, 2), BAD);
            Refusal.due(check, "face(0, " + p + ", 2)", Nets::busy, x -> x.face(0, p, 2), BAD);
            Refusal.due(check, "face(0, 1, " + p + ")", Nets::busy, x -> x.face(0, 1, p), BAD);
        }
        Refusal.due(check, "face(5, 6, 7)", Nets::busy, x -> x.face(5, 6, 7), BAD);
        Refusal.due(check, "face(-3, -2, -1)", Nets::busy, x -> x.face(-3, -2, -1), BAD);
        check.due("face(0, 0, 0), one point", new NetForms().face(0, 0, 0), BAD);
    }

    private static void faceOutOfOrder(Check check) {
        for (int abc = 0; abc < 27; abc++) {
            int a = abc / 9;
            int b = abc / 3 % 3;
            int c = abc % 3;
            NetForms x = Check.net(3, 0, 1, 1, 2, 0, 2);
            String call = "face(" + a + ", " + b + ", " + c + ")";
            check.due(call, x.face(a, b, c), a < b && b < c ? 0 : BAD);
            check.due(call + ": count(2)", x.count(2), a < b && b < c ? 1 : 0);
        }
    }

    private static void faceIsThere(Check check) {
        Refusal.due(check, "face(0, 1, 2)", Nets::busy, x -> x.face(0, 1, 2), NO);
        Refusal.due(check, "face(0, 2, 3)", Nets::busy, x -> x.face(0, 2, 3), NO);
        // Each plate below shares two points, or an edge, with one that is there.
        NetForms x = Nets.allEdges();
        x.face(0, 1, 2);
        check.due("face(0, 1, 3)", x.face(0, 1, 3), 1);
        check.due("face(1, 2, 3)", x.face(1, 2, 3), 2);
        check.due("face(0, 2, 3)", x.face(0, 2, 3), 3);
    }

    private static void faceWithoutAnEdge(Check check) {
        for (int there = 0; there < 8; there++) {
            NetForms x = Check.net(3);
            int made = 0;
            made += (there & 1) != 0 && x.edge(0, 1) >= 0 ? 1 : 0;
            made += (there & 2) != 0 && x.edge(1, 2) >= 0 ? 1 : 0;
            made += (there & 4) != 0 && x.edge(0, 2) >= 0 ? 1 : 0;
            check.due("face(0, 1, 2) of edges " + there, x.face(0, 1, 2), made == 3 ? 0 : NO);
            check.due("count(2) of edges " + there, x.count(2), made == 3 ? 1 : 0);
        }
        Refusal.due(check, "face(0, 1, 3) without 1, 3", Nets::busy, x -> x.face(0, 1, 3), NO);
        Refusal.due(check, "face(1, 2, 3) without 1, 3", Nets::busy, x -> x.face(1, 2, 3), NO);
        Refusal.due(check, "face(2, 3, 4) without two", Nets::busy, x -> x.face(2, 3, 4), NO);
    }

    private static void cornersAtTheEnds(Check check) {
        NetForms x = Nets.allPlates();
        int[][] ends = {{1, 0, 0, 0}, {1, 0, 1, 1}, {1, 11, 0, 1}, {1, 11, 1, 5}, {2, 0, 0, 0}, {2, 0, 1, 1},
            {2, 0, 2, 2}, {2, 9, 0, 2}, {2, 9, 1, 3}, {2, 9, 2, 4}};
        for (int[] e : ends) {
            String call = "corner(" + e[0] + ", " + e[1] + ", " + e[2] + ")";
            check.due(call, x.corner(e[0], e[1], e[2]), e[3]);
        }
    }

    private static void noSuchCorner(Check check) {
        for (int i : Refusal.outside(0, 1)) {
            Refusal.due(check, "corner(1, 0, " + i + ")", Nets::allPlates, x -> x.corner(1, 0, i), NONE);
            Refusal.due(check, "corner(1, 11, " + i + ")", Nets::allPlates, x -> x.corner(1, 11, i), NONE);
        }
        for (int i : Refusal.outside(0, 2)) {
            Refusal.due(check, "corner(2, 0, " + i + ")", Nets::allPlates, x -> x.corner(2, 0, i), NONE);
            Refusal.due(check, "corner(2, 9, " + i + ")", Nets::allPlates, x -> x.corner(2, 9, i), NONE);
        }
    }

    private static void badCornerDegree(Check check) {
        for (int degree : Refusal.outside(1, 2)) {
            Refusal.due(check, "corner(" + degree + ", 0, 0)", Nets::busy, x -> x.corner(degree, 0, 0), BAD);
        }
        Refusal.due(check, "corner(-1, 0, 0)", Nets::busy, x -> x.corner(-1, 0, 0), BAD);
    }

    private static void badCornerNumber(Check check) {
        for (int k : Refusal.outside(0, 4)) {
            Refusal.due(check, "corner(1, " + k + ", 0)", Nets::busy, x -> x.corner(1, k, 0), BAD);
        }
        for (int k : Refusal.outside(0, 1)) {
            Refusal.due(check, "corner(2, " + k + ", 0)", Nets::busy, x -> x.corner(2, k, 0), BAD);
        }
        check.due("corner(1, 12, 0) of twelve", Nets.allPlates().corner(1, 12, 0), BAD);
        check.due("corner(2, 10, 0) of ten", Nets.allPlates().corner(2, 10, 0), BAD);
        check.due("corner(1, 0, 0) of none", new NetForms().corner(1, 0, 0), BAD);
        check.due("corner(2, 0, 0) of none", Nets.allEdges().corner(2, 0, 0), BAD);
    }

    private static void countOfLeast(Check check) {
        dueCounts(check, Check.net(1), 1, 0, 0, 0, 1);
        dueCounts(check, Check.net(6), 6, 0, 0, 0, 6);
    }

    private static void countOfMost(Check check) {
        NetForms x = Nets.allPlates();
        for (int p = 0; p < 6; p++) {
            x.wall(p, 0);
            check.due("count(3)", x.count(3), p + 1);
        }
        dueCounts(check, x, 6, 12, 10, 6, 1);
        x.edge(2, 5);
        x.face(0, 1, 5);
        x.wall(6, 0);
        dueCounts(check, x, 6, 12, 10, 6, 1);
        x.open(2);
        x.open(2);
        dueCounts(check, x, 6, 12, 10, 5, 1);
    }

    /** An edge within a part leaves the parts as they are. */
    private static void countOfParts(Check check) {
        NetForms x = Check.net(6);
        int[][] steps = {{4, 5, 5}, {2, 3, 4}, {3, 5, 3}, {2, 4, 3}, {2, 5, 3}, {0, 5, 2}, {0, 2, 2}, {1, 2, 1}, {0, 1, 1}};
        for (int[] step : steps) {
            x.edge(step[0], step[1]);
            check.due("count(4) behind edge(" + step[0] + ", " + step[1] + ")", x.count(4), step[2]);
        }
    }

    private static void badCount(Check check) {
        for (int what : Refusal.outside(0, 4)) {
            Refusal.due(check, "count(" + what + ")", Nets::busy, x -> x.count(what), BAD);
        }
    }
}
