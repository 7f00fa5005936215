/** Nets that several tests begin with. */
final class Nets {
    static final int MILLION = 1000000;
    /** All edges of five points, as pairs. */
    static final int[] FIVE_POINTS = {0, 1, 0, 2, 0, 3, 0, 4, 1, 2, 1, 3, 1, 4, 2, 3, 2, 4, 3, 4};

    private Nets() {
    }

    /** Two plates 0, 1, 2 and 0, 2, 3; edges 01, 12, 02, 23, 03. */
    static NetForms kite() {
        NetForms x = Check.net(4, 0, 1, 1, 2, 0, 2, 2, 3, 0, 3);
        x.face(0, 1, 2);
        x.face(0, 2, 3);
        return x;
    }

    /** A kite beside a point 4, with forms of all degrees, walls, and a wave under way. */
    static NetForms busy() {
        NetForms x = Check.net(5, 0, 1, 1, 2, 0, 2, 2, 3, 0, 3);
        x.face(0, 1, 2);
        x.face(0, 2, 3);
        Check.form(x, 0, 0, 10, 13, 9, -4, 2);
        Check.form(x, 1, 1, 3, 4, 7, 1, 9);
        Check.form(x, 2, 2, 5, -6);
        Check.form(x, 3, 0, 1, 2, 3, 4, 5);
        // Forms 4, 5 and 6 have slopes, rims and cups beyond a form's bounds.
        Check.form(x, 4, 0, MILLION, -MILLION, MILLION, MILLION, -MILLION);
        Check.form(x, 5, 1, MILLION, MILLION, -MILLION, MILLION, MILLION);
        Check.form(x, 6, 2, MILLION, -MILLION);
        Check.form(x, 11, 1, 6, 6, 6, 6, 6);
        x.wall(1, 5);
        x.wall(4, -7);
        x.raise(0);
        x.wave(3);
        return x;
    }

    /** Twelve edges on six points: all of the first five points, and 05, 15; no plates. */
    static NetForms allEdges() {
        return Check.net(6, 0, 1, 0, 2, 0, 3, 0, 4, 1, 2, 1, 3, 1, 4, 2, 3, 2, 4, 3, 4, 0, 5, 1, 5);
    }

    /** The same with the ten plates of the first five points; the plate 0, 1, 5 would be the eleventh. */
    static NetForms allPlates() {
        NetForms x = allEdges();
        for (int a = 0; a < 5; a++) {
            for (int b = a + 1; b < 5; b++) {
                for (int c = b + 1; c < 5; c++) {
                    x.face(a, b, c);
                }
            }
        }
        return x;
    }
}
