import java.util.ArrayList;
import java.util.List;

/** The sentences on the digest, one by one (promise 27), and on how long an object is used. */
public final class DigestBoundsTest {
    public static void main(String[] args) {
        Sentences s = new Sentences();
        s.test("digest: h = 109; then 31 h + v, of a new object", DigestBoundsTest::newObject);
        s.test("digest: it wraps as a long", DigestBoundsTest::fullObject);
        s.test("digest: count(0) to count(4)", DigestBoundsTest::counts);
        s.test("digest: of EDGES, PLATES their POINTS", DigestBoundsTest::corners);
        s.test("digest: of FORMS DEGREE, numbers, of those without numbers too", DigestBoundsTest::forms);
        s.test("digest: of WALLS POINT, v, of those with 0 too, of no others", DigestBoundsTest::walls);
        s.test("digest: HEIGHTS, FLOWS, with no STEPS", DigestBoundsTest::wave);
        s.test("digest: changes nothing", DigestBoundsTest::changesNothing);
        s.test("An object is used for at most 512 calls", DigestBoundsTest::manyCalls);
        s.end();
    }

    /** What the digest is told of, by the other calls of the face. */
    private static long told(NetForms x, int[] degrees, long[] heights, long[] flows, int... walls) {
        List<Long> all = new ArrayList<>();
        for (int what = 0; what < 5; what++) {
            all.add((long) x.count(what));
        }
        for (int degree = 1; degree < 3; degree++) {
            for (int k = 0; k < x.count(degree); k++) {
                for (int i = 0; i <= degree; i++) {
                    all.add((long) x.corner(degree, k, i));
                }
            }
        }
        for (int f = 0; f < 12; f++) {
            all.add((long) degrees[f]);
            for (int k = 0; k < x.count(degrees[f]); k++) {
                all.add((long) x.get(f, k));
            }
        }
        for (int v : walls) {
            all.add((long) v);
        }
        for (long v : heights) {
            all.add(v);
        }
        for (long v : flows) {
            all.add(v);
        }
        long h = 109;
        for (long v : all) {
            h = 31 * h + v;
        }
        return h;
    }

    private static void newObject(Check check) {
        NetForms x = new NetForms();
        check.due("digest()", x.digest(), told(x, new int[12], new long[1], new long[0]));
    }

    private static void fullObject(Check check) {
        NetForms x = Nets.allPlates();
        int[] degrees = new int[12];
        int[] sizes = {6, 12, 10};
        for (int f = 0; f < 12; f++) {
            degrees[f] = f % 3;
            x.form(f, degrees[f]);
            for (int k = 0; k < sizes[degrees[f]]; k++) {
                x.set(f, k, k % 2 == 0 ? 1000000 - f : f - 1000000);
            }
        }
        int[] walls = new int[12];
        for (int p = 5; p >= 0; p--) {
            x.wall(p, 1000 - 300 * p);
            walls[2 * p] = p;
            walls[2 * p + 1] = 1000 - 300 * p;
        }
        x.raise(0);
        x.wave(100);
        long[] heights = new long[6];
        long[] flows = new long[12];
        for (int p = 0; p < 6; p++) {
            heights[p] = x.height(p);
        }
        for (int e = 0; e < 12; e++) {
            flows[e] = x.flow(e);
        }
        check.due("digest()", x.digest(), told(x, degrees, heights, flows, walls));
    }

    private static void counts(Check check) {
        for (int n = 1; n <= 6; n++) {
            NetForms x = Check.net(n);
            check.due("digest() of " + n + " points", x.digest(), told(x, new int[12], new long[n], new long[0]));
        }
        NetForms x = Check.net(6, 0, 1, 1, 2, 0, 2, 4, 5);
        x.face(0, 1, 2);
        check.due("digest() of 6, 4, 1, 0, 3", x.digest(), told(x, new int[12], new long[6], new long[4]));
    }

    private static void corners(Check check) {
        NetForms x = Check.net(4, 2, 3, 0, 2, 1, 2, 0, 3, 0, 1);
        x.face(0, 2, 3);
        x.face(0, 1, 2);
        check.due("digest()", x.digest(), told(x, new int[12], new long[4], new long[5]));
        NetForms y = Check.net(4, 2, 3, 0, 2, 1, 2, 0, 3, 0, 1);
        y.face(0, 1, 2);
        y.face(0, 2, 3);
        check.due("digest(), plates the other way round", y.digest(), told(y, new int[12], new long[4], new long[5]));
        check.due("these differ", x.digest() != y.digest() ? 1 : 0, 1);
    }

    private static void forms(Check check) {
        for (int f = 0; f < 12; f++) {
            for (int degree = 0; degree < 3; degree++) {
                NetForms x = Nets.kite();
                int[] degrees = new int[12];
                degrees[f] = degree;
                x.form(f, degree);
                x.set(f, 1, -77);
                check.due("digest(), form " + f + " of degree " + degree, x.digest(),
                    told(x, degrees, new long[4], new long[5]));
            }
        }
        NetForms x = Check.net(2);
        x.form(3, 1);
        x.form(4, 2);
        int[] degrees = {0, 0, 0, 1, 2, 0, 0, 0, 0, 0, 0, 0};
        check.due("digest(), forms without numbers", x.digest(), told(x, degrees, new long[2], new long[0]));
    }

    private static void walls(Check check) {
        NetForms x = Check.net(3);
        x.wall(2, 0);
        check.due("digest(), a wall with 0", x.digest(), told(x, new int[12], new long[3], new long[0], 2, 0));
        x.wall(0, -1000);
        check.due("digest(), walls by points", x.digest(), told(x, new int[12], new long[3], new long[0], 0, -1000, 2, 0));
        x.wall(2, 1000);
        x.open(0);
        check.due("digest(), one left", x.digest(), told(x, new int[12], new long[3], new long[0], 2, 1000));
        x.open(2);
        check.due("digest(), none left", x.digest(), told(x, new int[12], new long[3], new long[0]));
    }

    private static void wave(Check check) {
        NetForms x = Check.net(3, 0, 1, 1, 2);
        Check.form(x, 0, 0, 7, 0, 0);
        x.raise(0);
        check.due("digest(), raised", x.digest(), told(x, new int[12], new long[] {7, 0, 0}, new long[2]));
        x.wave(2);
        check.due("digest(), two steps", x.digest(), told(x, new int[12], new long[] {0, 0, 7}, new long[] {0, 7}));
        NetForms y = Check.net(3, 0, 1, 1, 2);
        long before = y.digest();
        y.wave(100);
        check.due("digest(), steps of a wave that is 0", y.digest(), before);
    }

    private static void changesNothing(Check check) {
        Refusal.due(check, "digest()", Nets::busy, NetForms::digest, Nets.busy().digest());
    }

    /** The last of 512 calls is still answered as due. */
    private static void manyCalls(Check check) {
        NetForms x = new NetForms();
        x.net(2);
        x.edge(0, 1);
        x.set(0, 0, 5);
        x.set(0, 1, 1);
        x.raise(0);
        for (int i = 1; i <= 505; i++) {
            check.due("wave(100) no " + i, x.wave(100), 100 * i);
        }
        check.due("height(0), the 511th call", x.height(0), 5);
        check.due("height(1), the 512th call", x.height(1), 1);
        NetForms y = Nets.allPlates();
        Check.form(y, 0, 1, 1, 2, 3, 4, 5, 6, 7, 8, 9, 10, 11, 1000);
        long first = y.split(0, 2, 0, 0);
        for (int i = 37; i < 512; i++) {
            check.due("split(0, 2, 0, 0), call " + (i + 1), y.split(0, 2, 0, 0), first);
        }
    }
}
