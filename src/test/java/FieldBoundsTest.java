/** The sentences on walls and fields that name a boundary case: promises 17 to 20. */
public final class FieldBoundsTest {
    private static final int BAD = NetForms.BAD, NONE = NetForms.NONE;
    private static final int BAD_NUMBER = -2000000, NO_WALL = -1000000;

    public static void main(String[] args) {
        Sentences s = new Sentences();
        s.test("WALLS, with a number -1000 .. 1000", FieldBoundsTest::greatestWalls);
        s.test("wall: BAD: no such number", FieldBoundsTest::badWallNumber);
        s.test("wall: BAD: no such POINT", FieldBoundsTest::badWallPoint);
        s.test("wall: of a WALL", FieldBoundsTest::wallAgain);
        s.test("open: its number", FieldBoundsTest::openTellsTheNumber);
        s.test("open: BAD: -2000000", FieldBoundsTest::badOpen);
        s.test("open: NO: it is none: -1000000", FieldBoundsTest::openOfNone);
        s.test("field: NONE: the FIELD is there, if each part has a WALL", FieldBoundsTest::fieldIsThere);
        s.test("field: else the least POINT of a part without one", FieldBoundsTest::fieldIsForbidden);
        s.test("FIELD: WALLS theirs", FieldBoundsTest::wallsKeepTheirs);
        s.test("FIELD: at each other POINT all EDGES BALANCE", FieldBoundsTest::balance);
        s.test("FIELD: one WALL alone in a part", FieldBoundsTest::oneWall);
        s.test("fieldAt: above, below, in lowest terms", FieldBoundsTest::lowestTerms);
        s.test("fieldAt: 0: BAD", FieldBoundsTest::badFieldAt);
        s.test("fieldAt: 0: it is not there", FieldBoundsTest::fieldIsNotThere);
        s.end();
    }

    private static void greatestWalls(Check check) {
        for (int v : new int[] {-1000, -1, 0, 1, 1000}) {
            NetForms x = new NetForms();
            check.due("wall(0, " + v + ")", x.wall(0, v), 1);
            check.due("count(3)", x.count(3), 1);
            check.due("fieldAt(0, 0)", x.fieldAt(0, 0), v);
            check.due("fieldAt(0, 1)", x.fieldAt(0, 1), 1);
            check.due("open(0)", x.open(0), v);
        }
    }

    private static void badWallNumber(Check check) {
        for (int v : Refusal.outside(-1000, 1000)) {
            Refusal.due(check, "wall(0, " + v + ")", Nets::busy, x -> x.wall(0, v), BAD);
            Refusal.due(check, "wall(1, " + v + "), a wall", Nets::busy, x -> x.wall(1, v), BAD);
        }
    }

    private static void badWallPoint(Check check) {
        for (int p : Refusal.outside(0, 4)) {
            Refusal.due(check, "wall(" + p + ", 3)", Nets::busy, x -> x.wall(p, 3), BAD);
        }
        check.due("wall(1, 0) of one point", new NetForms().wall(1, 0), BAD);
        check.due("wall(6, 0) of six points", Check.net(6).wall(6, 0), BAD);
    }

    private static void wallAgain(Check check) {
        NetForms x = Nets.busy();
        check.due("wall(1, -8) again", x.wall(1, -8), 1);
        check.due("count(3)", x.count(3), 2);
        check.due("open(1)", x.open(1), -8);
        check.due("count(3) behind open(1)", x.count(3), 1);
        check.due("open(1) again", x.open(1), NO_WALL);
        check.due("wall(1, 0)", x.wall(1, 0), 1);
        check.due("open(1), 0", x.open(1), 0);
    }

    private static void openTellsTheNumber(Check check) {
        NetForms x = Check.net(6);
        int[] numbers = {0, 1000, -1000, -2, -3, -1};
        for (int p = 0; p < 6; p++) {
            x.wall(p, numbers[p]);
        }
        for (int p = 5; p >= 0; p--) {
            check.due("open(" + p + ")", x.open(p), numbers[p]);
            check.due("count(3)", x.count(3), p);
        }
    }

    private static void badOpen(Check check) {
        for (int p : Refusal.outside(0, 4)) {
            Refusal.due(check, "open(" + p + ")", Nets::busy, x -> x.open(p), BAD_NUMBER);
        }
        check.due("open(1) of one point", new NetForms().open(1), BAD_NUMBER);
        check.due("open(6) of six points", Check.net(6).open(6), BAD_NUMBER);
    }

    private static void openOfNone(Check check) {
        for (int p : new int[] {0, 2, 3}) {
            Refusal.due(check, "open(" + p + ")", Nets::busy, x -> x.open(p), NO_WALL);
        }
    }

    private static void fieldIsThere(Check check) {
        NetForms x = new NetForms();
        x.wall(0, 0);
        check.due("field(), one point", x.field(), NONE);
        for (int p = 0; p < 4; p++) {
            NetForms y = Nets.kite();
            y.wall(p, 5);
            check.due("field(), a wall at " + p + " alone", y.field(), NONE);
        }
        NetForms z = Check.net(6, 4, 5, 1, 3);
        for (int p : new int[] {0, 2, 3, 5}) {
            z.wall(p, 1);
        }
        check.due("field(), four parts", z.field(), NONE);
        NetForms all = Check.net(6);
        for (int p = 0; p < 6; p++) {
            all.wall(p, p);
        }
        check.due("field(), walls alone", all.field(), NONE);
    }

    private static void fieldIsForbidden(Check check) {
        check.due("field() of a new object", new NetForms().field(), 0);
        NetForms x = Check.net(6, 4, 5, 1, 3, 3, 2);
        x.edge(2, 3);
        int[][] steps = {{0, 0, 1}, {3, 0, 4}, {5, 0, NONE}};
        check.due("field() without walls", x.field(), 0);
        for (int[] step : steps) {
            x.wall(step[0], step[1]);
            check.due("field() behind wall(" + step[0] + ")", x.field(), step[2]);
        }
        x.open(3);
        check.due("field() behind open(3)", x.field(), 1);
        x.wall(2, 7);
        check.due("field() behind wall(2)", x.field(), NONE);
        x.open(5);
        x.open(0);
        check.due("field(), two parts without", x.field(), 0);
        x.edge(0, 5);
        check.due("field(), the two joined", x.field(), 0);
        x.edge(1, 5);
        check.due("field(), all joined to a wall", x.field(), NONE);
        // Here the wall stands at the least point, and only the last part has none.
        NetForms y = Check.net(6, 0, 1, 1, 2, 2, 3, 3, 4);
        y.wall(0, 1);
        check.due("field(), the last point alone", y.field(), 5);
    }

    private static void wallsKeepTheirs(Check check) {
        NetForms x = Nets.allEdges();
        for (int p = 0; p < 6; p++) {
            x.wall(p, 1000 - 400 * p);
        }
        for (int p = 0; p < 6; p++) {
            check.due("fieldAt(" + p + ", 0)", x.fieldAt(p, 0), 1000 - 400 * p);
            check.due("fieldAt(" + p + ", 1)", x.fieldAt(p, 1), 1);
        }
    }

    /** A free point at the end of an edge takes what is at the other end. */
    private static void balance(Check check) {
        NetForms x = Check.net(5, 0, 1, 0, 2, 1, 2, 1, 3, 2, 3, 1, 4);
        x.wall(0, 1);
        x.wall(3, 0);
        dueField(check, x, 1, 1, 1, 2, 1, 2, 0, 1, 1, 2);
        x.wall(4, 4);
        dueField(check, x, 1, 1, 16, 11, 9, 11, 0, 1, 4, 1);
        x.wall(4, -1000);
        x.wall(0, -1000);
        // 4 h1 = -2000 + h2 and 3 h2 = -1000 + h1.
        dueField(check, x, -1000, 1, -7000, 11, -6000, 11, 0, 1, -1000, 1);
    }

    private static void dueField(Check check, NetForms x, long... fractions) {
        for (int p = 0; 2 * p < fractions.length; p++) {
            check.due("fieldAt(" + p + ", 0)", x.fieldAt(p, 0), fractions[2 * p]);
            check.due("fieldAt(" + p + ", 1)", x.fieldAt(p, 1), fractions[2 * p + 1]);
        }
    }

    private static void oneWall(Check check) {
        NetForms x = Check.net(6, 0, 1, 1, 2, 0, 2, 4, 5);
        x.wall(2, -6);
        x.wall(3, 9);
        x.wall(4, 0);
        dueField(check, x, -6, 1, -6, 1, -6, 1, 9, 1, 0, 1, 0, 1);
    }

    private static void lowestTerms(Check check) {
        NetForms x = Check.net(4, 2, 3, 0, 1, 1, 2);
        int[] ends = {0, 1, 2, 3, 9, -10, 1000, -999};
        long[][] due = {{0, 1, 0, 1}, {1, 3, 2, 3}, {2, 3, 4, 3}, {1, 1, 2, 1}, {3, 1, 6, 1}, {-10, 3, -20, 3},
            {1000, 3, 2000, 3}, {-333, 1, -666, 1}};
        x.wall(0, 0);
        for (int i = 0; i < ends.length; i++) {
            x.wall(3, ends[i]);
            dueField(check, x, 0, 1, due[i][0], due[i][1], due[i][2], due[i][3], ends[i], 1);
        }
    }

    private static NetForms walled() {
        NetForms x = Nets.kite();
        x.wall(0, 7);
        x.wall(3, 7);
        return x;
    }

    private static void badFieldAt(Check check) {
        for (int p : Refusal.outside(0, 3)) {
            Refusal.due(check, "fieldAt(" + p + ", 0)", FieldBoundsTest::walled, x -> x.fieldAt(p, 0), 0);
            Refusal.due(check, "fieldAt(" + p + ", 1)", FieldBoundsTest::walled, x -> x.fieldAt(p, 1), 0);
        }
        for (int what : Refusal.outside(0, 1)) {
            Refusal.due(check, "fieldAt(0, " + what + ")", FieldBoundsTest::walled, x -> x.fieldAt(0, what), 0);
            Refusal.due(check, "fieldAt(1, " + what + ")", FieldBoundsTest::walled, x -> x.fieldAt(1, what), 0);
        }
        check.due("fieldAt(1, 0)", walled().fieldAt(1, 0), 7);
        check.due("fieldAt(1, 1)", walled().fieldAt(1, 1), 1);
    }

    /** Not even at a wall, nor in a part that has one. */
    private static void fieldIsNotThere(Check check) {
        NetForms x = Check.net(4, 0, 1, 2, 3);
        for (int what = 0; what < 2; what++) {
            check.due("fieldAt(0, " + what + ") without walls", x.fieldAt(0, what), 0);
        }
        x.wall(0, 5);
        for (int p = 0; p < 4; p++) {
            check.due("fieldAt(" + p + ", 0), a part without", x.fieldAt(p, 0), 0);
            check.due("fieldAt(" + p + ", 1), a part without", x.fieldAt(p, 1), 0);
        }
        x.wall(3, 6);
        dueField(check, x, 5, 1, 5, 1, 6, 1, 6, 1);
        x.open(0);
        check.due("fieldAt(3, 0) behind open(0)", x.fieldAt(3, 0), 0);
        check.due("fieldAt(3, 1) behind open(0)", x.fieldAt(3, 1), 0);
        check.due("fieldAt(0, 1) of a new object", new NetForms().fieldAt(0, 1), 0);
    }
}
