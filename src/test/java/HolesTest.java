/** Promises 14 and 15: holes, potential. */
public final class HolesTest {
    private static final int MIN = Integer.MIN_VALUE, MAX = Integer.MAX_VALUE;
    private static final int MILLION = 1000000;
    private static final Check check = new Check();

    public static void main(String[] args) {
        holes();
        potential();
        potentialOfParts();
        whatForbids();
        beyond();
        refused();
        check.end();
    }

    private static void dueHoles(String net, NetForms x, int... due) {
        for (int degree = 0; degree < 3; degree++) {
            check.due(net + ": holes(" + degree + ")", x.holes(degree), due[degree]);
        }
    }

    private static void holes() {
        NetForms x = new NetForms();
        dueHoles("one point", x, 1, 0, 0);
        x.net(6);
        dueHoles("six points", x, 6, 0, 0);
        x = Check.net(4, 0, 1, 0, 2, 0, 3, 1, 2, 1, 3, 2, 3);
        dueHoles("all edges of four points", x, 1, 3, 0);
        x.face(0, 1, 2);
        x.face(0, 1, 3);
        x.face(0, 2, 3);
        dueHoles("three plates", x, 1, 0, 0);
        x.face(1, 2, 3);
        dueHoles("a hollow of four plates", x, 1, 0, 1);
        x = Check.net(6, 0, 1, 1, 2, 0, 2, 3, 4, 4, 5, 3, 5);
        x.face(3, 4, 5);
        dueHoles("two triangles, one filled", x, 2, 1, 0);
        octahedron();
        strip();
        x = Check.net(5, 0, 1, 0, 2, 0, 3, 0, 4, 1, 2, 1, 3, 1, 4, 2, 3, 2, 4, 3, 4);
        for (int a = 0; a < 5; a++) {
            for (int b = a + 1; b < 5; b++) {
                for (int c = b + 1; c < 5; c++) {
                    x.face(a, b, c);
                }
            }
        }
        dueHoles("all ten plates of five points", x, 1, 0, 4);
        for (int degree : new int[] {-1, 3, MIN, MAX}) {
            check.due("holes(" + degree + ")", x.holes(degree), NetForms.BAD);
        }
    }

    /** Points 0, 1 and 2, 3 and 4, 5 are across from one another; eight plates around one hollow. */
    private static void octahedron() {
        NetForms x = Check.net(6, 0, 2, 0, 3, 0, 4, 0, 5, 1, 2, 1, 3, 1, 4, 1, 5, 2, 4, 2, 5, 3, 4, 3, 5);
        dueHoles("octahedron, edges", x, 1, 7, 0);
        int made = 0;
        for (int a = 0; a < 2; a++) {
            for (int b = 2; b < 4; b++) {
                for (int c = 4; c < 6; c++) {
                    check.due("octahedron: face", x.face(a, b, c), made++);
                    dueHoles("octahedron, plates " + made, x, 1, made < 8 ? 7 - made : 0, made < 8 ? 0 : 1);
                }
            }
        }
    }

    /** A strip of five plates around, turned once: it has one hole. */
    private static void strip() {
        NetForms x = Check.net(5, 0, 1, 1, 2, 2, 3, 3, 4, 0, 4, 0, 2, 1, 3, 2, 4, 0, 3, 1, 4);
        int[][] plates = {{0, 1, 2}, {1, 2, 3}, {2, 3, 4}, {0, 3, 4}, {0, 1, 4}};
        for (int[] p : plates) {
            x.face(p[0], p[1], p[2]);
        }
        dueHoles("strip", x, 1, 1, 0);
    }

    private static void potential() {
        NetForms x = Check.net(4, 2, 3, 0, 3, 0, 1, 1, 2);
        Check.form(x, 0, 1, 10, 6, 1, -5);
        check.due("potential(0, 1)", x.potential(0, 1), NetForms.NONE);
        check.dueForm("potential(0, 1)", x, 1, 0, 0, 1, -4, 6);
        check.dueForm("potential(0, 1): source", x, 0, 1, 10, 6, 1, -5);
        check.due("potential(0, 0)", x.potential(0, 0), NetForms.NONE);
        check.dueForm("potential(0, 0)", x, 0, 0, 0, 1, -4, 6);
        x.edge(1, 3);
        check.due("slope(0, 2)", x.slope(0, 2), 1);
        check.dueForm("slope of the potential", x, 2, 1, 10, 6, 1, -5, 5);
    }

    private static void potentialOfParts() {
        NetForms x = Check.net(6, 4, 5, 1, 5, 2, 3);
        Check.form(x, 3, 1, 3, 8, -2);
        Check.form(x, 4, 0, 9, 9, 9, 9, 9, 9);
        check.due("potential(3, 4) of parts", x.potential(3, 4), NetForms.NONE);
        check.dueForm("potential(3, 4) of parts", x, 4, 0, 0, 0, 0, -2, 5, 8);
        x = new NetForms();
        x.form(0, 1);
        Check.form(x, 1, 0, 7);
        check.due("potential(0, 1) without edges", x.potential(0, 1), NetForms.NONE);
        check.dueForm("potential(0, 1) without edges", x, 1, 0, 0);
    }

    private static void whatForbids() {
        NetForms x = Check.net(5, 0, 1, 3, 4, 1, 2, 0, 2, 2, 3, 2, 4, 0, 4);
        Check.form(x, 0, 1, 1, 1, 1, 2, 1, 2, 4);
        check.due("potential(0, 1) that is there", x.potential(0, 1), NetForms.NONE);
        check.dueForm("potential(0, 1)", x, 1, 0, 0, 1, 2, 3, 4);
        // Edges 3, 5 and 6 close rounds; a wrong edge that joins shows in the first round that it is of.
        int[] forbidding = {3, 5, 3, 3, 5, 5, 6};
        for (int e = 0; e < 7; e++) {
            int was = x.get(0, e);
            x.set(0, e, was + 1);
            long before = x.digest();
            check.unchanged("potential(0, 1), wrong at " + e, x.potential(0, 1), forbidding[e], x, before);
            check.unchanged("potential(0, 0), wrong at " + e, x.potential(0, 0), forbidding[e], x, before);
            x.set(0, e, was);
        }
    }

    private static void beyond() {
        NetForms x = Check.net(4, 0, 1, 1, 2, 0, 2, 2, 3);
        Check.form(x, 0, 1, 500000, 500000, MILLION, 0);
        check.due("potential(0, 1) just within", x.potential(0, 1), NetForms.NONE);
        check.dueForm("potential(0, 1) just within", x, 1, 0, 0, 500000, MILLION, MILLION);
        x.set(0, 3, 1);
        long before = x.digest();
        check.unchanged("potential(0, 1) above", x.potential(0, 1), NetForms.BEYOND, x, before);
        x.set(0, 2, 0);
        before = x.digest();
        check.unchanged("potential(0, 1) forbidden ahead", x.potential(0, 1), 2, x, before);
        x = Check.net(3, 0, 1, 1, 2);
        Check.form(x, 0, 1, -MILLION, -1);
        before = x.digest();
        check.unchanged("potential(0, 1) below", x.potential(0, 1), NetForms.BEYOND, x, before);
    }

    private static void refused() {
        NetForms x = Check.net(3, 0, 1, 1, 2);
        x.form(1, 1);
        x.form(2, 2);
        long before = x.digest();
        check.unchanged("potential(0, 1), degree 0", x.potential(0, 1), NetForms.NO, x, before);
        check.unchanged("potential(2, 1), degree 2", x.potential(2, 1), NetForms.NO, x, before);
        for (int f : new int[] {-1, 12, MIN, MAX}) {
            check.unchanged("potential(" + f + ", 1)", x.potential(f, 1), NetForms.BAD, x, before);
            check.unchanged("potential(0, " + f + ")", x.potential(0, f), NetForms.BAD, x, before);
            check.unchanged("potential(1, " + f + ")", x.potential(1, f), NetForms.BAD, x, before);
        }
    }
}
