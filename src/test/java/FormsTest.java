/** Promises 6 to 13: form, set, get, slope, rim, cup, mix, about. */
public final class FormsTest {
    private static final int MIN = Integer.MIN_VALUE, MAX = Integer.MAX_VALUE;
    private static final int MILLION = 1000000, BAD_NUMBER = -2000000;
    private static final Check check = new Check();

    public static void main(String[] args) {
        form();
        setAndGet();
        laterOnesAreZero();
        slope();
        rim();
        rimOfPlates();
        slopeOfSlopeIsZero();
        cup();
        cupBeyond();
        mix();
        about();
        check.end();
    }

    private static void form() {
        NetForms x = Nets.kite();
        int[] sizes = {4, 5, 2};
        for (int degree = 0; degree < 3; degree++) {
            check.due("form(11, " + degree + ")", x.form(11, degree), 1);
            check.dueForm("form(11, " + degree + ")", x, 11, degree, new int[sizes[degree]]);
            for (int k = 0; k < sizes[degree]; k++) {
                x.set(11, k, 9);
            }
        }
        check.due("form(11, 2) anew", x.form(11, 2), 1);
        check.dueForm("form(11, 2) anew", x, 11, 2, 0, 0);
        long before = x.digest();
        int[][] bad = {{-1, 0}, {12, 0}, {0, -1}, {0, 3}, {MIN, 1}, {MAX, 1}, {0, MAX}, {0, MIN}};
        for (int[] p : bad) {
            check.unchanged("form(" + p[0] + ", " + p[1] + ")", x.form(p[0], p[1]), NetForms.BAD, x, before);
        }
    }

    private static void setAndGet() {
        NetForms x = Nets.kite();
        x.form(2, 1);
        check.due("set(2, 4, 1000000)", x.set(2, 4, MILLION), 0);
        check.due("set(2, 4, -1000000)", x.set(2, 4, -MILLION), MILLION);
        check.due("get(2, 4)", x.get(2, 4), -MILLION);
        check.due("get(2, 3)", x.get(2, 3), 0);
        check.due("get(1, 3)", x.get(1, 3), 0);
        long before = x.digest();
        int[][] bad = {{2, 5, 0}, {2, -1, 0}, {0, 4, 0}, {12, 0, 0}, {-1, 0, 0}, {2, MAX, 0}, {2, MIN, 0}, {MAX, 0, 0},
            {MIN, 0, 0}};
        for (int[] p : bad) {
            String call = "set(" + p[0] + ", " + p[1] + ", " + p[2] + ")";
            check.unchanged(call, x.set(p[0], p[1], p[2]), BAD_NUMBER, x, before);
            check.due("get(" + p[0] + ", " + p[1] + ")", x.get(p[0], p[1]), BAD_NUMBER);
        }
        for (int v : new int[] {MILLION + 1, -MILLION - 1, MAX, MIN}) {
            check.unchanged("set(2, 0, " + v + ")", x.set(2, 0, v), BAD_NUMBER, x, before);
        }
    }

    private static void laterOnesAreZero() {
        NetForms x = Check.net(3, 0, 1, 1, 2);
        Check.form(x, 0, 1, 5, 6);
        x.edge(0, 2);
        check.dueForm("an edge later", x, 0, 1, 5, 6, 0);
        x.form(1, 2);
        x.face(0, 1, 2);
        check.dueForm("a plate later", x, 1, 2, 0);
        // A form made from a longer one leaves nothing behind its own end.
        NetForms y = Check.net(4, 0, 1, 1, 2, 0, 2, 2, 3, 0, 3);
        y.face(0, 1, 2);
        Check.form(y, 2, 1, 7, 7, 7, 7, 7);
        check.due("slope(2, 2)", y.slope(2, 2), 2);
        y.face(0, 2, 3);
        check.dueForm("slope onto itself, then a plate", y, 2, 2, 7, 0);
    }

    private static void slope() {
        NetForms x = Nets.kite();
        Check.form(x, 0, 0, 10, 13, 9, -4);
        check.due("slope(0, 1)", x.slope(0, 1), 1);
        check.dueForm("slope(0, 1)", x, 1, 1, 3, -4, -1, -13, -14);
        check.dueForm("slope(0, 1): source", x, 0, 0, 10, 13, 9, -4);
        Check.form(x, 2, 1, 3, 4, 7, 1, 9);
        check.due("slope(2, 2)", x.slope(2, 2), 2);
        check.dueForm("slope(2, 2)", x, 2, 2, 0, -1);
        long before = x.digest();
        check.unchanged("slope(2, 3), degree 2", x.slope(2, 3), NetForms.NO, x, before);
        check.unchanged("slope(2, 12), degree 2", x.slope(2, 12), NetForms.BAD, x, before);
        for (int f : new int[] {-1, 12, MIN, MAX}) {
            check.unchanged("slope(" + f + ", 0)", x.slope(f, 0), NetForms.BAD, x, before);
            check.unchanged("slope(0, " + f + ")", x.slope(0, f), NetForms.BAD, x, before);
        }
        Check.form(x, 4, 0, -500000, 500000, 0, 0);
        check.due("slope(4, 5) just within", x.slope(4, 5), 1);
        check.dueForm("slope(4, 5)", x, 5, 1, MILLION, -500000, 500000, 0, 500000);
        x.set(4, 1, 500001);
        before = x.digest();
        check.unchanged("slope(4, 5) above", x.slope(4, 5), NetForms.BEYOND, x, before);
        check.unchanged("slope(4, 4) above", x.slope(4, 4), NetForms.BEYOND, x, before);
        Check.form(x, 6, 1, -MILLION, -MILLION, MILLION);
        before = x.digest();
        check.unchanged("slope(6, 7) below", x.slope(6, 7), NetForms.BEYOND, x, before);
    }

    private static void rim() {
        NetForms x = Nets.kite();
        Check.form(x, 0, 1, 3, 4, 7, 1, 9);
        check.due("rim(0, 3)", x.rim(0, 3), 0);
        check.dueForm("rim(0, 3)", x, 3, 0, -19, -1, 10, 10);
        check.due("rim(0, 0)", x.rim(0, 0), 0);
        check.dueForm("rim(0, 0)", x, 0, 0, -19, -1, 10, 10);
        long before = x.digest();
        check.unchanged("rim(0, 3), degree 0", x.rim(0, 3), NetForms.NO, x, before);
        check.unchanged("rim(0, -1), degree 0", x.rim(0, -1), NetForms.BAD, x, before);
        for (int f : new int[] {-1, 12, MIN, MAX}) {
            check.unchanged("rim(" + f + ", 0)", x.rim(f, 0), NetForms.BAD, x, before);
            check.unchanged("rim(0, " + f + ")", x.rim(0, f), NetForms.BAD, x, before);
        }
        Check.form(x, 4, 1, 0, 0, 0, 500000, 500000);
        check.due("rim(4, 5) just within", x.rim(4, 5), 0);
        check.due("rim(4, 5) at 3", x.get(5, 3), MILLION);
        x.set(4, 4, 500001);
        before = x.digest();
        check.unchanged("rim(4, 5) above", x.rim(4, 5), NetForms.BEYOND, x, before);
    }

    private static void rimOfPlates() {
        NetForms x = Nets.kite();
        Check.form(x, 0, 2, 5, 7);
        check.due("rim(0, 1), degree 2", x.rim(0, 1), 1);
        check.dueForm("rim(0, 1), degree 2", x, 1, 1, 5, 5, 2, 7, -7);
        check.due("rim(0, 0), degree 2", x.rim(0, 0), 1);
        check.dueForm("rim(0, 0), degree 2", x, 0, 1, 5, 5, 2, 7, -7);
        check.due("rim(0, 2), of a rim", x.rim(0, 2), 0);
        check.dueForm("rim(0, 2), of a rim", x, 2, 0, 0, 0, 0, 0);
        Check.form(x, 3, 2, MILLION, -1);
        long before = x.digest();
        check.unchanged("rim(3, 4) below", x.rim(3, 4), NetForms.BEYOND, x, before);
        x.set(3, 1, 0);
        check.due("rim(3, 4) just within", x.rim(3, 4), 1);
    }

    private static void slopeOfSlopeIsZero() {
        NetForms x = Nets.kite();
        Check.form(x, 0, 0, 11, -5, 8, 3);
        x.slope(0, 1);
        x.slope(1, 2);
        check.dueForm("slope of a slope", x, 2, 2, 0, 0);
    }

    private static void cup() {
        NetForms x = Nets.kite();
        int[][] numbers = {{2, 3, 5, 7}, {11, 13, 17, 19, 23}, {29, 31}};
        for (int degree = 0; degree < 3; degree++) {
            Check.form(x, degree, degree, numbers[degree]);
        }
        dueCup(x, 0, 0, 0, 4, 9, 25, 49);
        dueCup(x, 0, 1, 1, 22, 39, 34, 95, 46);
        dueCup(x, 1, 0, 1, 33, 65, 85, 133, 161);
        dueCup(x, 1, 1, 2, 143, 323);
        dueCup(x, 0, 2, 2, 58, 62);
        dueCup(x, 2, 0, 2, 145, 217);
        long before = x.digest();
        int[][] above = {{1, 2}, {2, 1}, {2, 2}};
        for (int[] p : above) {
            check.unchanged("cup(" + p[0] + ", " + p[1] + ", 5)", x.cup(p[0], p[1], 5), NetForms.NO, x, before);
        }
        for (int f : new int[] {-1, 12, MIN, MAX}) {
            check.unchanged("cup(" + f + ", 2, 0)", x.cup(f, 2, 0), NetForms.BAD, x, before);
            check.unchanged("cup(2, " + f + ", 0)", x.cup(2, f, 0), NetForms.BAD, x, before);
            check.unchanged("cup(2, 2, " + f + ")", x.cup(2, 2, f), NetForms.BAD, x, before);
        }
        check.due("cup(1, 1, 1) onto itself", x.cup(1, 1, 1), 2);
        check.dueForm("cup(1, 1, 1)", x, 1, 2, 143, 323);
    }

    private static void dueCup(NetForms x, int f, int g, int degree, int... numbers) {
        String call = "cup(" + f + ", " + g + ", 7)";
        check.due(call, x.cup(f, g, 7), degree);
        check.dueForm(call, x, 7, degree, numbers);
    }

    private static void cupBeyond() {
        NetForms x = Nets.kite();
        Check.form(x, 0, 0, 1000, 0, 0, -1000);
        check.due("cup(0, 0, 1) just within", x.cup(0, 0, 1), 0);
        check.dueForm("cup(0, 0, 1)", x, 1, 0, MILLION, 0, 0, MILLION);
        x.set(0, 3, -1001);
        Check.form(x, 2, 0, MILLION, 1, 1, 1);
        long before = x.digest();
        check.unchanged("cup(0, 0, 1) above", x.cup(0, 0, 1), NetForms.BEYOND, x, before);
        check.unchanged("cup(2, 2, 1) far above", x.cup(2, 2, 1), NetForms.BEYOND, x, before);
        // 65536 times 65536 would be 0 as an int.
        Check.form(x, 3, 0, 65536, 0, 0, 0);
        before = x.digest();
        check.unchanged("cup(3, 3, 1)", x.cup(3, 3, 1), NetForms.BEYOND, x, before);
    }

    private static void mix() {
        NetForms x = Nets.kite();
        Check.form(x, 0, 1, 1, 2, 3, 4, 5);
        Check.form(x, 1, 1, 10, -20, 30, -40, 1000);
        check.due("mix(0, 7, 1, -3, 2)", x.mix(0, 7, 1, -3, 2), 1);
        check.dueForm("mix(0, 7, 1, -3, 2)", x, 2, 1, -23, 74, -69, 148, -2965);
        check.due("mix(0, -1000, 1, 1000, 0)", x.mix(0, -1000, 1, 1000, 0), 1);
        check.dueForm("mix(0, -1000, 1, 1000, 0)", x, 0, 1, 9000, -22000, 27000, -44000, 995000);
        check.due("mix(1, 0, 1, 0, 1)", x.mix(1, 0, 1, 0, 1), 1);
        check.dueForm("mix(1, 0, 1, 0, 1)", x, 1, 1, 0, 0, 0, 0, 0);
        long before = x.digest();
        check.unchanged("mix(0, 1, 3, 1, 4)", x.mix(0, 1, 3, 1, 4), NetForms.NO, x, before);
        check.unchanged("mix(0, 1001, 3, 1, 4)", x.mix(0, 1001, 3, 1, 4), NetForms.BAD, x, before);
        for (int v : new int[] {-1001, 1001, MIN, MAX}) {
            check.unchanged("mix(0, " + v + ", 2, 1, 4)", x.mix(0, v, 2, 1, 4), NetForms.BAD, x, before);
            check.unchanged("mix(0, 1, 2, " + v + ", 4)", x.mix(0, 1, 2, v, 4), NetForms.BAD, x, before);
        }
        for (int f : new int[] {-1, 12, MIN, MAX}) {
            check.unchanged("mix(" + f + ", 1, 0, 1, 4)", x.mix(f, 1, 0, 1, 4), NetForms.BAD, x, before);
            check.unchanged("mix(0, 1, " + f + ", 1, 4)", x.mix(0, 1, f, 1, 4), NetForms.BAD, x, before);
            check.unchanged("mix(0, 1, 3, 1, " + f + ")", x.mix(0, 1, 3, 1, f), NetForms.BAD, x, before);
        }
        Check.form(x, 5, 0, MILLION, 0, 0, 0);
        Check.form(x, 6, 0, 999, 0, 0, 0);
        check.due("mix(5, 1, 6, 0, 7) just within", x.mix(5, 1, 6, 0, 7), 0);
        before = x.digest();
        check.unchanged("mix(5, -1, 6, -1, 7)", x.mix(5, -1, 6, -1, 7), NetForms.BEYOND, x, before);
        check.unchanged("mix(5, 1000, 5, 1000, 5)", x.mix(5, 1000, 5, 1000, 5), NetForms.BEYOND, x, before);
    }

    private static void about() {
        NetForms x = Nets.kite();
        Check.form(x, 1, 1, 0, 0, 0, 0, 1);
        Check.form(x, 2, 2, 0, 3);
        Check.form(x, 3, 0, 4, 4, 4, 4);
        Check.form(x, 4, 0, 4, 4, 4, 5);
        Check.form(x, 5, 1, 1, 1, 2, -2, 0);
        Check.form(x, 6, 1, 1, 1, -1, 0, 0);
        x.form(7, 1);
        x.form(8, 2);
        int[][] facts = {{0, 1, 1, 1}, {1, 0, 0, 0}, {2, 0, 1, 0}, {0, 0, 1, 1}, {0, 0, 0, 1}, {1, 0, 1, 0},
            {1, 0, 0, 1}, {1, 1, 1, 1}, {2, 1, 1, 1}};
        for (int f = 0; f < facts.length; f++) {
            for (int what = 0; what < 4; what++) {
                check.due("about(" + f + ", " + what + ")", x.about(f, what), facts[f][what]);
            }
        }
        int[][] bad = {{-1, 0}, {12, 1}, {0, -1}, {0, 4}, {MIN, 2}, {MAX, 3}, {1, MIN}, {1, MAX}};
        for (int[] p : bad) {
            check.due("about(" + p[0] + ", " + p[1] + ")", x.about(p[0], p[1]), NetForms.BAD);
        }
        // A slope too great for a form is still told.
        Check.form(x, 9, 0, -MILLION, MILLION, MILLION, MILLION);
        check.due("about(9, 2)", x.about(9, 2), 0);
    }
}
