/** Promises 17 to 20: wall, open, field, fieldAt. */
public final class FieldTest {
    private static final int MIN = Integer.MIN_VALUE, MAX = Integer.MAX_VALUE;
    private static final int BAD_NUMBER = -2000000, NO_WALL = -1000000;
    private static final Check check = new Check();

    public static void main(String[] args) {
        wallAndOpen();
        field();
        alongAPath();
        bridge();
        wallsAlone();
        refused();
        check.end();
    }

    private static void wallAndOpen() {
        NetForms x = Check.net(4);
        check.due("wall(3, 1000)", x.wall(3, 1000), 1);
        check.due("wall(0, -1000)", x.wall(0, -1000), 1);
        check.due("wall(0, 7) again", x.wall(0, 7), 1);
        check.due("count(3)", x.count(3), 2);
        long before = x.digest();
        int[][] bad = {{-1, 0}, {4, 0}, {MIN, 0}, {MAX, 0}, {0, 1001}, {0, -1001}, {0, MIN}, {0, MAX}};
        for (int[] p : bad) {
            check.unchanged("wall(" + p[0] + ", " + p[1] + ")", x.wall(p[0], p[1]), NetForms.BAD, x, before);
        }
        for (int p : new int[] {-1, 4, 6, MIN, MAX}) {
            check.unchanged("open(" + p + ")", x.open(p), BAD_NUMBER, x, before);
        }
        check.unchanged("open(1)", x.open(1), NO_WALL, x, before);
        check.due("open(0)", x.open(0), 7);
        check.due("open(0) again", x.open(0), NO_WALL);
        check.due("open(3)", x.open(3), 1000);
        check.due("count(3) behind open", x.count(3), 0);
    }

    private static void field() {
        NetForms x = Check.net(6, 4, 5, 1, 3, 2, 3);
        int[] walls = {0, 3, 5};
        int[] forbidding = {0, 1, 4};
        for (int i = 0; i < 3; i++) {
            check.due("field() with " + i + " walls", x.field(), forbidding[i]);
            check.due("fieldAt(0, 1) with " + i + " walls", x.fieldAt(0, 1), 0);
            x.wall(walls[i], 2);
        }
        check.due("field() with walls in each part", x.field(), NetForms.NONE);
        x.open(0);
        check.due("field() behind open(0)", x.field(), 0);
        x.edge(0, 4);
        check.due("field() behind a join", x.field(), NetForms.NONE);
        check.due("fieldAt(0, 0)", x.fieldAt(0, 0), 2);
        check.due("fieldAt(0, 1)", x.fieldAt(0, 1), 1);
    }

    private static void dueField(NetForms x, long... fractions) {
        for (int p = 0; 2 * p < fractions.length; p++) {
            check.due("fieldAt(" + p + ", 0)", x.fieldAt(p, 0), fractions[2 * p]);
            check.due("fieldAt(" + p + ", 1)", x.fieldAt(p, 1), fractions[2 * p + 1]);
        }
    }

    private static void alongAPath() {
        NetForms x = Check.net(4, 2, 3, 0, 1, 1, 2);
        x.wall(0, 0);
        x.wall(3, -10);
        long before = x.digest();
        dueField(x, 0, 1, -10, 3, -20, 3, -10, 1);
        check.due("digest() behind fieldAt", x.digest(), before);
        x.wall(3, 6);
        dueField(x, 0, 1, 2, 1, 4, 1, 6, 1);
        x.open(0);
        dueField(x, 6, 1, 6, 1, 6, 1, 6, 1);
    }

    /** A bridge of five edges between walls 0 and 3, and a free point that hangs at 1. */
    private static void bridge() {
        NetForms x = Check.net(5, 0, 1, 0, 2, 1, 2, 1, 3, 2, 3, 1, 4);
        x.wall(0, 1);
        x.wall(3, 0);
        dueField(x, 1, 1, 1, 2, 1, 2, 0, 1, 1, 2);
        x.wall(4, 4);
        // 4 h1 = 1 + 4 + h2 and 3 h2 = 1 + h1: h1 is 16 / 11, h2 is 9 / 11.
        dueField(x, 1, 1, 16, 11, 9, 11, 0, 1, 4, 1);
    }

    private static void wallsAlone() {
        NetForms x = Check.net(3, 0, 2);
        for (int p = 0; p < 3; p++) {
            x.wall(p, 500 - 400 * p);
        }
        dueField(x, 500, 1, 100, 1, -300, 1);
    }

    private static void refused() {
        NetForms x = new NetForms();
        x.wall(0, 3);
        for (int v : new int[] {-1, 2, 6, MIN, MAX}) {
            check.due("fieldAt(0, " + v + ")", x.fieldAt(0, v), 0);
            check.due("fieldAt(" + v + ", 0)", x.fieldAt(v, 0), 0);
            check.due("fieldAt(" + v + ", 1)", x.fieldAt(v, 1), 0);
        }
        check.due("fieldAt(0, 0)", x.fieldAt(0, 0), 3);
        x.open(0);
        check.due("fieldAt(0, 0) without a wall", x.fieldAt(0, 0), 0);
        check.due("fieldAt(0, 1) without a wall", x.fieldAt(0, 1), 0);
    }
}
