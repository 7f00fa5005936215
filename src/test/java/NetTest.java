/** Promises 1 to 5 and 26: a new object, net, edge, face, corner, count. */
public final class NetTest {
    private static final int MIN = Integer.MIN_VALUE, MAX = Integer.MAX_VALUE;
    private static final Check check = new Check();

    public static void main(String[] args) {
        newObject();
        net();
        netForgets();
        edge();
        fullOfEdges();
        face();
        fullOfPlates();
        corner();
        count();
        check.end();
    }

    private static void newObject() {
        NetForms x = new NetForms();
        int[] counts = {1, 0, 0, 0, 1};
        for (int what = 0; what < 5; what++) {
            check.due("new: count(" + what + ")", x.count(what), counts[what]);
        }
        for (int f = 0; f < 12; f++) {
            check.dueForm("new: form " + f, x, f, 0, 0);
        }
        check.due("new: open(0)", x.open(0), -1000000);
        check.due("new: height(0)", x.height(0), 0);
        check.due("new: wave(1)", x.wave(1), 1);
    }

    private static void net() {
        NetForms x = new NetForms();
        for (int n = 1; n <= 6; n++) {
            check.due("net(" + n + ")", x.net(n), 1);
            check.due("count(0)", x.count(0), n);
        }
        long before = x.digest();
        for (int n : new int[] {0, 7, -1, MIN, MAX}) {
            check.unchanged("net(" + n + ")", x.net(n), NetForms.BAD, x, before);
        }
    }

    private static void netForgets() {
        NetForms x = Check.net(3, 0, 1, 1, 2, 0, 2);
        x.face(0, 1, 2);
        Check.form(x, 3, 1, 4, 5, 6);
        Check.form(x, 11, 0, 7, 8, 9);
        x.wall(1, 5);
        x.raise(11);
        x.wave(3);
        check.due("net(3) again", x.net(3), 1);
        long fresh = Check.net(3).digest();
        check.due("net(3) again: digest()", x.digest(), fresh);
        check.due("net(3) again: about(3, 0)", x.about(3, 0), 0);
        check.due("net(3) again: wave(1)", x.wave(1), 1);
        x.wave(-1);
        x.edge(0, 1);
        check.due("net(3) again: flow(0)", x.flow(0), 0);
        x.form(3, 1);
        check.due("net(3) again: get(3, 0)", x.get(3, 0), 0);
    }

    private static void edge() {
        NetForms x = Check.net(4);
        check.due("edge(2, 3)", x.edge(2, 3), 0);
        check.due("edge(0, 3)", x.edge(0, 3), 1);
        check.due("edge(0, 1)", x.edge(0, 1), 2);
        long before = x.digest();
        int[][] bad = {{1, 0}, {3, 2}, {2, 2}, {-1, 2}, {0, 4}, {3, 4}, {MIN, 0}, {0, MAX}, {MIN, MAX}};
        for (int[] p : bad) {
            check.unchanged("edge(" + p[0] + ", " + p[1] + ")", x.edge(p[0], p[1]), NetForms.BAD, x, before);
        }
        check.unchanged("edge(0, 3) again", x.edge(0, 3), NetForms.NO, x, before);
    }

    private static void fullOfEdges() {
        NetForms x = Check.net(6);
        int made = 0;
        for (int a = 0; a < 6; a++) {
            for (int b = a + 1; b < 6; b++) {
                int want = made < 12 ? made : NetForms.FULL;
                check.due("edge(" + a + ", " + b + ") of all", x.edge(a, b), want);
                made++;
            }
        }
        check.due("full: count(1)", x.count(1), 12);
        check.due("full: edge(0, 1), there", x.edge(0, 1), NetForms.NO);
        check.due("full: edge(1, 0)", x.edge(1, 0), NetForms.BAD);
    }

    private static void face() {
        NetForms x = Check.net(5, 1, 2, 0, 2, 0, 1, 2, 3, 0, 3, 3, 4);
        check.due("face(0, 2, 3)", x.face(0, 2, 3), 0);
        check.due("face(0, 1, 2)", x.face(0, 1, 2), 1);
        long before = x.digest();
        int[][] bad = {{0, 2, 1}, {1, 0, 2}, {2, 1, 0}, {0, 0, 2}, {0, 2, 2}, {-1, 0, 1}, {0, 1, 5}, {0, MAX, 2},
            {MIN, 1, 2}, {0, 1, MAX}, {1, 2, MIN}};
        for (int[] p : bad) {
            String call = "face(" + p[0] + ", " + p[1] + ", " + p[2] + ")";
            check.unchanged(call, x.face(p[0], p[1], p[2]), NetForms.BAD, x, before);
        }
        check.unchanged("face(0, 2, 3) again", x.face(0, 2, 3), NetForms.NO, x, before);
        check.unchanged("face(0, 1, 3) without 1, 3", x.face(0, 1, 3), NetForms.NO, x, before);
        check.unchanged("face(0, 3, 4) without 0, 4", x.face(0, 3, 4), NetForms.NO, x, before);
        check.unchanged("face(1, 3, 4) without 1, 3 and 1, 4", x.face(1, 3, 4), NetForms.NO, x, before);
    }

    /** All edges of five points have ten plates; the sixth point with two edges more has the eleventh. */
    private static void fullOfPlates() {
        NetForms x = Check.net(6, 0, 1, 0, 2, 0, 3, 0, 4, 1, 2, 1, 3, 1, 4, 2, 3, 2, 4, 3, 4, 0, 5, 1, 5);
        int made = 0;
        for (int a = 0; a < 5; a++) {
            for (int b = a + 1; b < 5; b++) {
                for (int c = b + 1; c < 5; c++) {
                    check.due("face(" + a + ", " + b + ", " + c + ") of all", x.face(a, b, c), made++);
                }
            }
        }
        long before = x.digest();
        check.unchanged("full: face(0, 1, 5)", x.face(0, 1, 5), NetForms.FULL, x, before);
        check.unchanged("full: face(0, 1, 2), there", x.face(0, 1, 2), NetForms.NO, x, before);
        check.unchanged("full: face(0, 2, 5) without 2, 5", x.face(0, 2, 5), NetForms.NO, x, before);
        check.unchanged("full: face(1, 0, 5)", x.face(1, 0, 5), NetForms.BAD, x, before);
    }

    private static void corner() {
        NetForms x = Check.net(4, 2, 3, 1, 3, 1, 2, 0, 1);
        x.face(1, 2, 3);
        int[][] edges = {{2, 3}, {1, 3}, {1, 2}, {0, 1}};
        for (int k = 0; k < 4; k++) {
            check.due("corner(1, " + k + ", 0)", x.corner(1, k, 0), edges[k][0]);
            check.due("corner(1, " + k + ", 1)", x.corner(1, k, 1), edges[k][1]);
            check.due("corner(1, " + k + ", 2)", x.corner(1, k, 2), NetForms.NONE);
        }
        for (int i = 0; i < 3; i++) {
            check.due("corner(2, 0, " + i + ")", x.corner(2, 0, i), i + 1);
        }
        for (int i : new int[] {3, 4, -1, MIN, MAX}) {
            check.due("corner(2, 0, " + i + ")", x.corner(2, 0, i), NetForms.NONE);
            check.due("corner(1, 0, " + i + ")", x.corner(1, 0, i), NetForms.NONE);
        }
        int[][] bad = {{0, 0, 0}, {3, 0, 0}, {-1, 0, 0}, {1, 4, 0}, {1, -1, 0}, {2, 1, 0}, {2, -1, 3}, {MIN, 0, 0},
            {MAX, 0, 0}, {1, MAX, 5}, {2, MIN, -1}};
        for (int[] p : bad) {
            String call = "corner(" + p[0] + ", " + p[1] + ", " + p[2] + ")";
            check.due(call, x.corner(p[0], p[1], p[2]), NetForms.BAD);
        }
    }

    private static void count() {
        NetForms x = Check.net(6, 4, 5, 0, 2, 0, 5, 2, 5);
        x.face(0, 2, 5);
        x.wall(1, 0);
        x.wall(5, -3);
        x.wall(5, 4);
        int[] counts = {6, 4, 1, 2, 3};
        for (int what = 0; what < 5; what++) {
            check.due("count(" + what + ")", x.count(what), counts[what]);
        }
        x.open(1);
        check.due("count(3) behind open", x.count(3), 1);
        x.edge(1, 3);
        check.due("count(4) behind an edge", x.count(4), 2);
        x.edge(3, 4);
        check.due("count(4) behind a join", x.count(4), 1);
        for (int what : new int[] {-1, 5, MIN, MAX}) {
            check.due("count(" + what + ")", x.count(what), NetForms.BAD);
        }
    }
}
