import java.util.function.Supplier;

/** "Refused, changing nothing, the first of: BAD; NO; FULL; BEYOND": calls with two faults at once, two by two. */
public final class OrderTest {
    private static final int BAD = NetForms.BAD, NO = NetForms.NO, BEYOND = NetForms.BEYOND;
    private static final int BAD_NUMBER = -2000000;

    public static void main(String[] args) {
        Sentences s = new Sentences();
        s.test("edge: BAD ahead of NO", OrderTest::edgeBadThenNo);
        s.test("edge: BAD ahead of FULL", OrderTest::edgeBadThenFull);
        s.test("edge: NO ahead of FULL", OrderTest::edgeNoThenFull);
        s.test("face: BAD ahead of NO", OrderTest::faceBadThenNo);
        s.test("face: BAD ahead of FULL", OrderTest::faceBadThenFull);
        s.test("face: NO, it is there, ahead of FULL", OrderTest::faceThereThenFull);
        s.test("face: NO, an EDGE is not, ahead of FULL", OrderTest::faceWithoutEdgeThenFull);
        s.test("corner: BAD ahead of NONE", OrderTest::cornerBadThenNone);
        s.test("set: BAD, whichever numbers are not as told", OrderTest::setBadTwice);
        s.test("slope: BAD ahead of NO", OrderTest::slopeBadThenNo);
        s.test("slope: BAD ahead of BEYOND", OrderTest::slopeBadThenBeyond);
        s.test("rim: BAD ahead of NO", OrderTest::rimBadThenNo);
        s.test("rim: BAD ahead of BEYOND", OrderTest::rimBadThenBeyond);
        s.test("cup: BAD ahead of NO", OrderTest::cupBadThenNo);
        s.test("cup: BAD ahead of BEYOND", OrderTest::cupBadThenBeyond);
        s.test("cup: NO ahead of BEYOND", OrderTest::cupNoThenBeyond);
        s.test("mix: BAD ahead of NO", OrderTest::mixBadThenNo);
        s.test("mix: BAD ahead of BEYOND", OrderTest::mixBadThenBeyond);
        s.test("mix: NO ahead of BEYOND", OrderTest::mixNoThenBeyond);
        s.test("potential: BAD ahead of NO", OrderTest::potentialBadThenNo);
        s.test("potential: BAD ahead of what forbids, and of BEYOND", OrderTest::potentialBadThenRest);
        s.test("split: BAD ahead of BEYOND", OrderTest::splitBadThenBeyond);
        s.test("split: f is not of DEGREE 1, ahead of BEYOND", OrderTest::splitDegreeThenBeyond);
        s.test("fieldAt: BAD, and it is not there", OrderTest::fieldAtBadAndNotThere);
        s.test("wall: BAD, whichever numbers are not as told", OrderTest::wallBadTwice);
        s.end();
    }

    private static void refused(Check check, String name, Refusal.Call call, long want) {
        Refusal.due(check, name, Nets::busy, call, want);
    }

    private static void refused(Check check, String name, Supplier<NetForms> net, Refusal.Call call, long want) {
        Refusal.due(check, name, net, call, want);
    }

    private static void edgeBadThenNo(Check check) {
        refused(check, "edge(1, 0), 0, 1 is there", x -> x.edge(1, 0), BAD);
        refused(check, "edge(3, 0), 0, 3 is there", x -> x.edge(3, 0), BAD);
    }

    private static void edgeBadThenFull(Check check) {
        refused(check, "edge(5, 2) beside twelve", Nets::allEdges, x -> x.edge(5, 2), BAD);
        refused(check, "edge(2, 6) beside twelve", Nets::allEdges, x -> x.edge(2, 6), BAD);
        refused(check, "edge(-1, 5) beside twelve", Nets::allEdges, x -> x.edge(-1, 5), BAD);
        refused(check, "edge(2, 2) beside twelve", Nets::allEdges, x -> x.edge(2, 2), BAD);
    }

    private static void edgeNoThenFull(Check check) {
        refused(check, "edge(0, 1) beside twelve", Nets::allEdges, x -> x.edge(0, 1), NO);
        refused(check, "edge(1, 5) beside twelve", Nets::allEdges, x -> x.edge(1, 5), NO);
    }

    private static void faceBadThenNo(Check check) {
        refused(check, "face(2, 1, 0), 0, 1, 2 is there", x -> x.face(2, 1, 0), BAD);
        refused(check, "face(1, 0, 2), 0, 1, 2 is there", x -> x.face(1, 0, 2), BAD);
        refused(check, "face(1, 1, 2), without 1, 1", x -> x.face(1, 1, 2), BAD);
        refused(check, "face(3, 1, 0), without 1, 3", x -> x.face(3, 1, 0), BAD);
        refused(check, "face(1, 4, 5), without 1, 4", x -> x.face(1, 4, 5), BAD);
    }

    private static void faceBadThenFull(Check check) {
        refused(check, "face(1, 0, 5) beside ten", Nets::allPlates, x -> x.face(1, 0, 5), BAD);
        refused(check, "face(0, 1, 6) beside ten", Nets::allPlates, x -> x.face(0, 1, 6), BAD);
        refused(check, "face(-1, 0, 1) beside ten", Nets::allPlates, x -> x.face(-1, 0, 1), BAD);
    }

    private static void faceThereThenFull(Check check) {
        refused(check, "face(0, 1, 2) beside ten", Nets::allPlates, x -> x.face(0, 1, 2), NO);
        refused(check, "face(2, 3, 4) beside ten", Nets::allPlates, x -> x.face(2, 3, 4), NO);
    }

    private static void faceWithoutEdgeThenFull(Check check) {
        refused(check, "face(0, 2, 5) without 2, 5", Nets::allPlates, x -> x.face(0, 2, 5), NO);
        refused(check, "face(3, 4, 5) without 3, 5 and 4, 5", Nets::allPlates, x -> x.face(3, 4, 5), NO);
    }

    private static void cornerBadThenNone(Check check) {
        for (int i : new int[] {-1, 2, 3, Integer.MIN_VALUE, Integer.MAX_VALUE}) {
            refused(check, "corner(0, 0, " + i + ")", x -> x.corner(0, 0, i), BAD);
            refused(check, "corner(3, 0, " + i + ")", x -> x.corner(3, 0, i), BAD);
            refused(check, "corner(1, 5, " + i + ")", x -> x.corner(1, 5, i), BAD);
            refused(check, "corner(2, 2, " + i + ")", x -> x.corner(2, 2, i), BAD);
            refused(check, "corner(1, -1, " + i + ")", x -> x.corner(1, -1, i), BAD);
        }
    }

    private static void setBadTwice(Check check) {
        refused(check, "set(12, 99, 1000001)", x -> x.set(12, 99, 1000001), BAD_NUMBER);
        refused(check, "set(0, 5, 1000001)", x -> x.set(0, 5, 1000001), BAD_NUMBER);
        refused(check, "set(-1, 0, -1000001)", x -> x.set(-1, 0, -1000001), BAD_NUMBER);
        refused(check, "get(12, 99)", x -> x.get(12, 99), BAD_NUMBER);
        refused(check, "form(12, 3)", x -> x.form(12, 3), BAD);
        refused(check, "about(-1, 4)", x -> x.about(-1, 4), BAD);
    }

    private static void slopeBadThenNo(Check check) {
        refused(check, "slope(2, 12)", x -> x.slope(2, 12), BAD);
        refused(check, "slope(2, -1)", x -> x.slope(2, -1), BAD);
    }

    private static void slopeBadThenBeyond(Check check) {
        refused(check, "slope(4, 0)", x -> x.slope(4, 0), BEYOND);
        refused(check, "slope(4, 12)", x -> x.slope(4, 12), BAD);
        refused(check, "slope(5, 0)", x -> x.slope(5, 0), BEYOND);
        refused(check, "slope(5, -1)", x -> x.slope(5, -1), BAD);
    }

    private static void rimBadThenNo(Check check) {
        refused(check, "rim(0, 12)", x -> x.rim(0, 12), BAD);
        refused(check, "rim(0, -1)", x -> x.rim(0, -1), BAD);
    }

    private static void rimBadThenBeyond(Check check) {
        refused(check, "rim(5, 0)", x -> x.rim(5, 0), BEYOND);
        refused(check, "rim(5, 12)", x -> x.rim(5, 12), BAD);
        refused(check, "rim(6, 0)", x -> x.rim(6, 0), BEYOND);
        refused(check, "rim(6, -1)", x -> x.rim(6, -1), BAD);
    }

    private static void cupBadThenNo(Check check) {
        refused(check, "cup(2, 2, 12)", x -> x.cup(2, 2, 12), BAD);
        refused(check, "cup(1, 2, -1)", x -> x.cup(1, 2, -1), BAD);
    }

    private static void cupBadThenBeyond(Check check) {
        refused(check, "cup(4, 4, 0)", x -> x.cup(4, 4, 0), BEYOND);
        refused(check, "cup(4, 4, 12)", x -> x.cup(4, 4, 12), BAD);
        refused(check, "cup(5, 5, 0)", x -> x.cup(5, 5, 0), BEYOND);
        refused(check, "cup(5, 5, -1)", x -> x.cup(5, 5, -1), BAD);
    }

    private static void cupNoThenBeyond(Check check) {
        refused(check, "cup(5, 6, 0)", x -> x.cup(5, 6, 0), NO);
        refused(check, "cup(6, 5, 0)", x -> x.cup(6, 5, 0), NO);
        refused(check, "cup(6, 6, 0)", x -> x.cup(6, 6, 0), NO);
    }

    private static void mixBadThenNo(Check check) {
        refused(check, "mix(0, 1, 1, 1, 12)", x -> x.mix(0, 1, 1, 1, 12), BAD);
        refused(check, "mix(0, 1001, 1, 1, 7)", x -> x.mix(0, 1001, 1, 1, 7), BAD);
        refused(check, "mix(0, 1, 1, -1001, 7)", x -> x.mix(0, 1, 1, -1001, 7), BAD);
    }

    private static void mixBadThenBeyond(Check check) {
        refused(check, "mix(4, 2, 4, 2, 7)", x -> x.mix(4, 2, 4, 2, 7), BEYOND);
        refused(check, "mix(4, 1001, 4, 2, 7)", x -> x.mix(4, 1001, 4, 2, 7), BAD);
        refused(check, "mix(4, 2, 4, -1001, 7)", x -> x.mix(4, 2, 4, -1001, 7), BAD);
        refused(check, "mix(4, 2, 4, 2, -1)", x -> x.mix(4, 2, 4, 2, -1), BAD);
    }

    private static void mixNoThenBeyond(Check check) {
        refused(check, "mix(4, 1000, 5, 1000, 7)", x -> x.mix(4, 1000, 5, 1000, 7), NO);
        refused(check, "mix(6, 1000, 5, 1000, 7)", x -> x.mix(6, 1000, 5, 1000, 7), NO);
    }

    private static void potentialBadThenNo(Check check) {
        refused(check, "potential(0, 12)", x -> x.potential(0, 12), BAD);
        refused(check, "potential(2, -1)", x -> x.potential(2, -1), BAD);
    }

    private static void potentialBadThenRest(Check check) {
        refused(check, "potential(1, 12)", x -> x.potential(1, 12), BAD);
        Supplier<NetForms> steep = () -> {
            NetForms x = Check.net(3, 0, 1, 1, 2);
            Check.form(x, 0, 1, 1000000, 1);
            return x;
        };
        refused(check, "potential(0, 1), beyond", steep, x -> x.potential(0, 1), BEYOND);
        refused(check, "potential(0, -1), beyond", steep, x -> x.potential(0, -1), BAD);
    }

    private static void splitBadThenBeyond(Check check) {
        refused(check, "split(5, 0, 0, 0)", x -> x.split(5, 0, 0, 0), -5);
        int[][] bad = {{-1, 0, 0}, {3, 0, 0}, {0, -1, 0}, {0, 5, 0}, {0, 0, -1}, {0, 0, 2}, {3, 5, 2}};
        for (int[] b : bad) {
            String name = "split(5, " + b[0] + ", " + b[1] + ", " + b[2] + ")";
            refused(check, name, x -> x.split(5, b[0], b[1], b[2]), 0);
        }
    }

    private static void splitDegreeThenBeyond(Check check) {
        refused(check, "split(4, 0, 0, 0)", x -> x.split(4, 0, 0, 0), 0);
        refused(check, "split(6, 0, 0, 1)", x -> x.split(6, 0, 0, 1), 0);
        refused(check, "split(4, 3, 9, 2)", x -> x.split(4, 3, 9, 2), 0);
    }

    private static void fieldAtBadAndNotThere(Check check) {
        Supplier<NetForms> open = () -> {
            NetForms x = Nets.busy();
            x.open(4);
            return x;
        };
        refused(check, "fieldAt(5, 0)", open, x -> x.fieldAt(5, 0), 0);
        refused(check, "fieldAt(-1, 2)", open, x -> x.fieldAt(-1, 2), 0);
        refused(check, "fieldAt(0, 2)", open, x -> x.fieldAt(0, 2), 0);
    }

    private static void wallBadTwice(Check check) {
        refused(check, "wall(5, 1001)", x -> x.wall(5, 1001), BAD);
        refused(check, "wall(-1, -1001)", x -> x.wall(-1, -1001), BAD);
    }
}
