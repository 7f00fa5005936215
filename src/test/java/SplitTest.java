/** Promise 16: split. */
public final class SplitTest {
    private static final int MIN = Integer.MIN_VALUE, MAX = Integer.MAX_VALUE;
    private static final Check check = new Check();

    public static void main(String[] args) {
        triangle();
        lowestTerms();
        tree();
        hollow();
        limits();
        refused();
        check.end();
    }

    private static void duePart(NetForms x, int f, int part, long... fractions) {
        for (int e = 0; 2 * e < fractions.length; e++) {
            String call = "split(" + f + ", " + part + ", " + e + ", ";
            check.due(call + "0)", x.split(f, part, e, 0), fractions[2 * e]);
            check.due(call + "1)", x.split(f, part, e, 1), fractions[2 * e + 1]);
        }
    }

    private static void triangle() {
        NetForms x = Check.net(3, 0, 1, 1, 2, 0, 2);
        Check.form(x, 0, 1, 0, 0, 6);
        long before = x.digest();
        duePart(x, 0, 0, 2, 1, 2, 1, 4, 1);
        duePart(x, 0, 1, 0, 1, 0, 1, 0, 1);
        duePart(x, 0, 2, -2, 1, -2, 1, 2, 1);
        check.due("digest() behind split", x.digest(), before);
        x.face(0, 1, 2);
        duePart(x, 0, 0, 2, 1, 2, 1, 4, 1);
        duePart(x, 0, 1, -2, 1, -2, 1, 2, 1);
        duePart(x, 0, 2, 0, 1, 0, 1, 0, 1);
    }

    /** Two triangles at the edge 0, 2, one of them filled: eighths and twenty-fourths come in lowest terms. */
    private static void lowestTerms() {
        NetForms x = Check.net(4, 0, 1, 1, 2, 0, 2, 2, 3, 0, 3);
        x.face(0, 1, 2);
        Check.form(x, 5, 1, 1, 0, 0, 0, 0);
        // A whole round part of w = 1 on 0, 1: five eighths is its slope, a third the turn, a twenty-fourth still.
        duePart(x, 5, 0, 5, 8, -3, 8, 1, 4, -1, 8, 1, 8);
        duePart(x, 5, 1, 1, 3, 1, 3, -1, 3, 0, 1, 0, 1);
        duePart(x, 5, 2, 1, 24, 1, 24, 1, 12, 1, 8, -1, 8);
    }

    private static void tree() {
        NetForms x = Check.net(6, 0, 5, 1, 5, 2, 3);
        Check.form(x, 1, 1, 1000, -1000, 17);
        duePart(x, 1, 0, 1000, 1, -1000, 1, 17, 1);
        duePart(x, 1, 1, 0, 1, 0, 1, 0, 1);
        duePart(x, 1, 2, 0, 1, 0, 1, 0, 1);
    }

    /** Four plates around a hollow: their rims hang together, and the turn part is still just one. */
    private static void hollow() {
        NetForms x = Check.net(4, 0, 1, 0, 2, 0, 3, 1, 2, 1, 3, 2, 3);
        x.face(0, 1, 2);
        x.face(0, 1, 3);
        x.face(0, 2, 3);
        x.face(1, 2, 3);
        Check.form(x, 0, 1, 1, 0, 0, 0, 0, 0);
        duePart(x, 0, 0, 1, 2, 1, 4, 1, 4, -1, 4, -1, 4, 0, 1);
        duePart(x, 0, 1, 1, 2, -1, 4, -1, 4, 1, 4, 1, 4, 0, 1);
        duePart(x, 0, 2, 0, 1, 0, 1, 0, 1, 0, 1, 0, 1, 0, 1);
    }

    private static void limits() {
        NetForms x = Check.net(3, 0, 1, 1, 2, 0, 2);
        Check.form(x, 0, 1, 1000, -1000, 0);
        check.due("split(0, 0, 0, 0) at 1000", x.split(0, 0, 0, 0), 1000);
        x.set(0, 1, -1001);
        check.due("split(0, 0, 0, 0) at -1001", x.split(0, 0, 0, 0), -5);
        check.due("split(0, 2, 2, 1) at -1001", x.split(0, 2, 2, 1), -5);
        x.set(0, 1, 1001);
        check.due("split(0, 1, 2, 1) at 1001", x.split(0, 1, 2, 1), -5);
        check.due("split(0, 1, 3, 1) at 1001, no such edge", x.split(0, 1, 3, 1), 0);
        check.due("split(0, 3, 0, 1) at 1001, no such part", x.split(0, 3, 0, 1), 0);
        check.due("split(0, 0, 0, 2) at 1001, no such what", x.split(0, 0, 0, 2), 0);
    }

    private static void refused() {
        NetForms x = Check.net(3, 0, 1, 1, 2, 0, 2);
        x.face(0, 1, 2);
        Check.form(x, 0, 1, 5, 5, 5);
        Check.form(x, 1, 0, 5, 6, 1001);
        Check.form(x, 2, 2, 1001);
        for (int what = 0; what < 2; what++) {
            check.due("split(1, 0, 0, " + what + "), degree 0", x.split(1, 0, 0, what), 0);
            check.due("split(2, 0, 0, " + what + "), degree 2", x.split(2, 0, 0, what), 0);
            for (int v : new int[] {-1, MIN, MAX}) {
                check.due("split(" + v + ", 0, 0, " + what + ")", x.split(v, 0, 0, what), 0);
                check.due("split(0, " + v + ", 0, " + what + ")", x.split(0, v, 0, what), 0);
                check.due("split(0, 0, " + v + ", " + what + ")", x.split(0, 0, v, what), 0);
            }
            check.due("split(12, 0, 0, " + what + ")", x.split(12, 0, 0, what), 0);
            check.due("split(0, 3, 0, " + what + ")", x.split(0, 3, 0, what), 0);
            check.due("split(0, 0, 3, " + what + ")", x.split(0, 0, 3, what), 0);
        }
        for (int what : new int[] {-1, 2, MIN, MAX}) {
            check.due("split(0, 0, 0, " + what + ")", x.split(0, 0, 0, what), 0);
        }
    }
}
