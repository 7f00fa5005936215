/** The sentences on forms that name a boundary case: promises 6 to 13. */
public final class FormBoundsTest {
    private static final int BAD = NetForms.BAD, NO = NetForms.NO, BEYOND = NetForms.BEYOND;
    private static final int MILLION = 1000000, BAD_NUMBER = -2000000;

    public static void main(String[] args) {
        Sentences s = new Sentences();
        s.test("FORMS 0 .. 11: each is there, and its own", FormBoundsTest::formsThatAreThere);
        s.test("FORMS 0 .. 11: no others are there", FormBoundsTest::formsThatAreNot);
        s.test("FORMS have a DEGREE 0, 1, 2; form: BAD", FormBoundsTest::badDegree);
        s.test("FORMS have a number for each POINT, EDGE, PLATE", FormBoundsTest::oneNumberForEach);
        s.test("those that come later: 0", FormBoundsTest::laterOnes);
        s.test("those that come later: 0, in a form that had more numbers", FormBoundsTest::laterOnesOfAShortened);
        s.test("form: with 0 everywhere", FormBoundsTest::zeroEverywhere);
        s.test("set: what it was", FormBoundsTest::whatItWas);
        s.test("set: BAD: v above 1000000 in size", FormBoundsTest::setTooLarge);
        s.test("set: BAD: k that is not there", FormBoundsTest::setNotThere);
        s.test("get: BAD: -2000000", FormBoundsTest::getNotThere);
        s.test("slope: of a net without EDGES or PLATES", FormBoundsTest::slopeOfNothing);
        s.test("slope: perhaps the same", FormBoundsTest::slopeOntoItself);
        s.test("slope: NO: f is of DEGREE 2", FormBoundsTest::slopeOfPlates);
        s.test("slope: BEYOND", FormBoundsTest::slopeBeyond);
        s.test("rim: of a POINT without EDGES, of an EDGE without PLATES", FormBoundsTest::rimOfNothing);
        s.test("rim: perhaps the same", FormBoundsTest::rimOntoItself);
        s.test("rim: NO: f is of DEGREE 0", FormBoundsTest::rimOfPoints);
        s.test("rim: BEYOND, DEGREE 1", FormBoundsTest::rimBeyond);
        s.test("rim: BEYOND, DEGREE 2", FormBoundsTest::rimOfPlatesBeyond);
        s.test("cup: of a net without EDGES or PLATES", FormBoundsTest::cupOfNothing);
        s.test("cup: onto one of its own", FormBoundsTest::cupOntoItself);
        s.test("cup: NO: above 2", FormBoundsTest::cupAboveTwo);
        s.test("cup: BEYOND", FormBoundsTest::cupBeyond);
        s.test("mix: p, q -1000 .. 1000", FormBoundsTest::greatestFactors);
        s.test("mix: BAD", FormBoundsTest::badFactors);
        s.test("mix: onto one of its own", FormBoundsTest::mixOntoItself);
        s.test("mix: NO: their DEGREES differ", FormBoundsTest::degreesDiffer);
        s.test("mix: BEYOND", FormBoundsTest::mixBeyond);
        s.test("slope, rim, cup, mix: of a full net", FormBoundsTest::fullNet);
        s.test("about: BAD", FormBoundsTest::badAbout);
        s.test("about: whether all its numbers are 0", FormBoundsTest::allZero);
        s.test("about: whether its SLOPE is 0 everywhere (DEGREE 2: all are)", FormBoundsTest::slopeIsZero);
        s.test("about: whether its RIM is (DEGREE 0: 1)", FormBoundsTest::rimIsZero);
        s.test("about: everywhere, at the last EDGE and POINT too", FormBoundsTest::lastOnesCount);
        s.test("about: whatever was told ahead of it", FormBoundsTest::aboutForgets);
        s.end();
    }

    private static void formsThatAreThere(Check check) {
        NetForms x = Nets.kite();
        for (int f = 0; f < 12; f++) {
            check.due("form(" + f + ", " + f % 3 + ")", x.form(f, f % 3), 1);
            check.due("set(" + f + ", 1, " + f + ")", x.set(f, 1, f + 1), 0);
        }
        for (int f = 0; f < 12; f++) {
            check.due("about(" + f + ", 0)", x.about(f, 0), f % 3);
            check.due("get(" + f + ", 0)", x.get(f, 0), 0);
            check.due("get(" + f + ", 1)", x.get(f, 1), f + 1);
        }
        check.due("slope(0, 11)", x.slope(0, 11), 1);
        check.dueForm("slope(0, 11)", x, 11, 1, 1, -1, 0, 0, 0);
        check.due("rim(11, 0)", x.rim(11, 0), 0);
        check.dueForm("rim(11, 0)", x, 0, 0, -1, 2, -1, 0);
        check.due("cup(0, 11, 11)", x.cup(0, 11, 11), 1);
        check.due("mix(11, 1, 11, 1, 0)", x.mix(11, 1, 11, 1, 0), 1);
        check.dueForm("mix(11, 1, 11, 1, 0)", x, 0, 1, -2, -4, 0, 0, 0);
        check.due("potential(0, 11)", x.potential(0, 11), 2);
        check.due("raise(11)", x.raise(11), 1);
        check.due("split(0, 0, 4, 0)", x.split(0, 0, 4, 0), -3);
    }

    private static void formsThatAreNot(Check check) {
        for (int f : Refusal.outside(0, 11)) {
            refused(check, "form(" + f + ", 1)", x -> x.form(f, 1), BAD);
            refused(check, "set(" + f + ", 0, 1)", x -> x.set(f, 0, 1), BAD_NUMBER);
            refused(check, "get(" + f + ", 0)", x -> x.get(f, 0), BAD_NUMBER);
            refused(check, "slope(" + f + ", 0)", x -> x.slope(f, 0), BAD);
            refused(check, "slope(0, " + f + ")", x -> x.slope(0, f), BAD);
            refused(check, "rim(" + f + ", 0)", x -> x.rim(f, 0), BAD);
            refused(check, "rim(1, " + f + ")", x -> x.rim(1, f), BAD);
            refused(check, "cup(" + f + ", 0, 7)", x -> x.cup(f, 0, 7), BAD);
            refused(check, "cup(0, " + f + ", 7)", x -> x.cup(0, f, 7), BAD);
            refused(check, "cup(0, 0, " + f + ")", x -> x.cup(0, 0, f), BAD);
            refused(check, "mix(" + f + ", 1, 0, 1, 7)", x -> x.mix(f, 1, 0, 1, 7), BAD);
            refused(check, "mix(0, 1, " + f + ", 1, 7)", x -> x.mix(0, 1, f, 1, 7), BAD);
            refused(check, "mix(0, 1, 0, 1, " + f + ")", x -> x.mix(0, 1, 0, 1, f), BAD);
            refused(check, "about(" + f + ", 0)", x -> x.about(f, 0), BAD);
            refused(check, "potential(" + f + ", 7)", x -> x.potential(f, 7), BAD);
            refused(check, "potential(1, " + f + ")", x -> x.potential(1, f), BAD);
            refused(check, "split(" + f + ", 0, 0, 1)", x -> x.split(f, 0, 0, 1), 0);
            refused(check, "raise(" + f + ")", x -> x.raise(f), BAD);
        }
    }

    private static void refused(Check check, String name, Refusal.Call call, long want) {
        Refusal.due(check, name, Nets::busy, call, want);
    }

    private static void badDegree(Check check) {
        for (int degree : Refusal.outside(0, 2)) {
            refused(check, "form(1, " + degree + ")", x -> x.form(1, degree), BAD);
        }
        for (int degree = 0; degree < 3; degree++) {
            NetForms x = Nets.busy();
            check.due("form(1, " + degree + ")", x.form(1, degree), 1);
            check.due("about(1, 0)", x.about(1, 0), degree);
        }
    }

    private static void oneNumberForEach(Check check) {
        int[] sizes = {6, 12, 10};
        for (int degree = 0; degree < 3; degree++) {
            NetForms x = Nets.allPlates();
            x.form(3, degree);
            for (int k = 0; k < sizes[degree]; k++) {
                check.due("degree " + degree + ": set at " + k, x.set(3, k, 10 + k), 0);
            }
            for (int k = 0; k < sizes[degree]; k++) {
                check.due("degree " + degree + ": get at " + k, x.get(3, k), 10 + k);
            }
            check.due("degree " + degree + ": set behind", x.set(3, sizes[degree], 1), BAD_NUMBER);
            check.due("degree " + degree + ": get behind", x.get(3, sizes[degree]), BAD_NUMBER);
        }
    }

    private static void laterOnes(Check check) {
        NetForms x = Check.net(3, 0, 1, 1, 2);
        x.form(5, 2);
        Check.form(x, 4, 1, 8, 9);
        check.due("get(4, 2) ahead of the edge", x.get(4, 2), BAD_NUMBER);
        check.due("get(5, 0) ahead of the plate", x.get(5, 0), BAD_NUMBER);
        x.edge(0, 2);
        check.dueForm("behind the edge", x, 4, 1, 8, 9, 0);
        x.face(0, 1, 2);
        check.dueForm("behind the plate", x, 5, 2, 0);
        check.due("set(5, 0, 3)", x.set(5, 0, 3), 0);
    }

    /** Form 0 had five numbers on edges; slope, rim and cup leave it fewer, and new edges and plates come then. */
    private static void laterOnesOfAShortened(Check check) {
        NetForms x = Check.net(4, 0, 1, 1, 2, 0, 2, 2, 3, 0, 3);
        x.face(0, 1, 2);
        for (int f = 0; f < 4; f++) {
            Check.form(x, f, 1, 7, 7, 7, 7, 7);
        }
        x.slope(0, 0);
        x.cup(1, 1, 1);
        x.form(2, 2);
        x.slope(3, 3);
        x.mix(3, 1, 3, 1, 3);
        x.face(0, 2, 3);
        int[] first = {7, 49, 0, 14};
        for (int f = 0; f < 4; f++) {
            check.dueForm("form " + f, x, f, 2, first[f], 0);
        }
        // Six numbers on points become one on the only edge.
        NetForms y = Check.net(6, 0, 1);
        Check.form(y, 0, 0, 1, 2, 3, 4, 5, 6);
        y.slope(0, 0);
        y.edge(0, 2);
        y.edge(4, 5);
        check.dueForm("slope of points", y, 0, 1, 1, 0, 0);
    }

    private static void zeroEverywhere(Check check) {
        int[] sizes = {6, 12, 10};
        for (int degree = 0; degree < 3; degree++) {
            NetForms x = Nets.allPlates();
            x.form(2, 1);
            for (int k = 0; k < 12; k++) {
                x.set(2, k, 5);
            }
            check.due("form(2, " + degree + ")", x.form(2, degree), 1);
            check.dueForm("form(2, " + degree + ")", x, 2, degree, new int[sizes[degree]]);
        }
    }

    private static void whatItWas(Check check) {
        NetForms x = new NetForms();
        int[] numbers = {MILLION, -MILLION, -1, 0, 1};
        int was = 0;
        for (int v : numbers) {
            check.due("set(11, 0, " + v + ")", x.set(11, 0, v), was);
            check.due("get(11, 0)", x.get(11, 0), v);
            was = v;
        }
    }

    private static void setTooLarge(Check check) {
        for (int f = 0; f < 3; f++) {
            int form = f;
            for (int v : Refusal.outside(-MILLION, MILLION)) {
                refused(check, "set(" + f + ", 1, " + v + ")", x -> x.set(form, 1, v), BAD_NUMBER);
            }
            NetForms x = Nets.busy();
            int was = x.get(f, 1);
            check.due("set(" + f + ", 1, 1000000)", x.set(f, 1, MILLION), was);
            check.due("set(" + f + ", 1, -1000000)", x.set(f, 1, -MILLION), MILLION);
            check.due("get(" + f + ", 1)", x.get(f, 1), -MILLION);
        }
    }

    private static void setNotThere(Check check) {
        int[] last = {4, 4, 1};
        for (int f = 0; f < 3; f++) {
            int form = f;
            for (int k : Refusal.outside(0, last[f])) {
                refused(check, "set(" + f + ", " + k + ", 1)", x -> x.set(form, k, 1), BAD_NUMBER);
            }
        }
        NetForms x = new NetForms();
        x.form(0, 1);
        check.due("set(0, 0, 1) without edges", x.set(0, 0, 1), BAD_NUMBER);
        x.form(0, 2);
        check.due("set(0, 0, 1) without plates", x.set(0, 0, 1), BAD_NUMBER);
    }

    private static void getNotThere(Check check) {
        int[] last = {4, 4, 1};
        for (int f = 0; f < 3; f++) {
            int form = f;
            for (int k : Refusal.outside(0, last[f])) {
                refused(check, "get(" + f + ", " + k + ")", x -> x.get(form, k), BAD_NUMBER);
            }
        }
        NetForms x = new NetForms();
        x.form(0, 1);
        check.due("get(0, 0) without edges", x.get(0, 0), BAD_NUMBER);
        x.form(0, 2);
        check.due("get(0, 0) without plates", x.get(0, 0), BAD_NUMBER);
    }

    private static void slopeOfNothing(Check check) {
        NetForms x = new NetForms();
        Check.form(x, 0, 0, 9);
        check.due("slope(0, 1) without edges", x.slope(0, 1), 1);
        check.dueForm("slope(0, 1) without edges", x, 1, 1);
        check.due("slope(1, 2) without plates", x.slope(1, 2), 2);
        check.dueForm("slope(1, 2) without plates", x, 2, 2);
        NetForms y = Nets.allEdges();
        Check.form(y, 0, 1, 1, 2, 3, 4, 5, 6, 7, 8, 9, 10, 11, 12);
        check.due("slope(0, 1), edges without plates", y.slope(0, 1), 2);
        check.dueForm("slope(0, 1), edges without plates", y, 1, 2);
    }

    private static void slopeOntoItself(Check check) {
        NetForms x = Nets.kite();
        Check.form(x, 0, 0, 10, 13, 9, -4);
        check.due("slope(0, 0), degree 0", x.slope(0, 0), 1);
        check.dueForm("slope(0, 0), degree 0", x, 0, 1, 3, -4, -1, -13, -14);
        x.set(0, 2, 6);
        check.due("slope(0, 0), degree 1", x.slope(0, 0), 2);
        check.dueForm("slope(0, 0), degree 1", x, 0, 2, -7, 7);
    }

    private static void slopeOfPlates(Check check) {
        refused(check, "slope(2, 7)", x -> x.slope(2, 7), NO);
        refused(check, "slope(2, 2)", x -> x.slope(2, 2), NO);
        NetForms x = new NetForms();
        x.form(0, 2);
        check.due("slope(0, 1) of no plates", x.slope(0, 1), NO);
    }

    private static void slopeBeyond(Check check) {
        NetForms x = Check.net(3, 0, 1, 1, 2, 0, 2);
        x.face(0, 1, 2);
        int[][] within = {{0, MILLION, 0}, {MILLION, 0, 0}, {-500000, 500000, 0}, {500000, -500000, 0}};
        for (int[] v : within) {
            Check.form(x, 0, 0, v);
            check.due("slope(0, 1) within", x.slope(0, 1), 1);
            check.due("slope(0, 1) at 0", x.get(1, 0), v[1] - v[0]);
        }
        int[][] above = {{-500000, 500001, 0}, {500001, -500000, 0}, {0, -1, MILLION}, {-1, 0, MILLION},
            {MILLION, -MILLION, 0}, {-MILLION, MILLION, 0}};
        for (int[] v : above) {
            dueBeyond(check, "slope(0, 1)", 0, v, y -> y.slope(0, 1));
            dueBeyond(check, "slope(0, 0)", 0, v, y -> y.slope(0, 0));
        }
        Check.form(x, 0, 1, 400000, 300000, -300000);
        check.due("slope(0, 1) of edges, within", x.slope(0, 1), 2);
        check.dueForm("slope(0, 1) of edges, within", x, 1, 2, MILLION);
        int[][] edges = {{400000, 300000, -300001}, {-400001, -300000, 300000}, {0, MILLION, -1},
            {MILLION, MILLION, -MILLION}, {-MILLION, -MILLION, MILLION}};
        for (int[] v : edges) {
            dueBeyond(check, "slope(0, 1)", 1, v, y -> y.slope(0, 1));
            dueBeyond(check, "slope(0, 0)", 1, v, y -> y.slope(0, 0));
        }
    }

    /** Form 0 has the numbers, form 1 something else that has to stay. */
    private static void dueBeyond(Check check, String name, int degree, int[] numbers, Refusal.Call call) {
        Refusal.due(check, name + " of " + java.util.Arrays.toString(numbers), () -> {
            NetForms x = Check.net(3, 0, 1, 1, 2, 0, 2);
            x.face(0, 1, 2);
            Check.form(x, 0, degree, numbers);
            Check.form(x, 1, 0, 4, 5, 6);
            return x;
        }, call, BEYOND);
    }

    private static void rimOfNothing(Check check) {
        NetForms x = Check.net(3);
        x.form(0, 1);
        check.due("rim(0, 1) without edges", x.rim(0, 1), 0);
        check.dueForm("rim(0, 1) without edges", x, 1, 0, 0, 0, 0);
        x.form(0, 2);
        check.due("rim(0, 1) without edges and plates", x.rim(0, 1), 1);
        check.dueForm("rim(0, 1) without edges and plates", x, 1, 1);
        NetForms y = Check.net(5, 0, 1, 1, 2, 0, 2, 0, 3);
        y.face(0, 1, 2);
        Check.form(y, 0, 1, 1, 2, 3, 4);
        y.rim(0, 1);
        check.dueForm("rim(0, 1), 4 without edges", y, 1, 0, -8, -1, 5, 4, 0);
        Check.form(y, 0, 2, 6);
        y.rim(0, 1);
        check.dueForm("rim(0, 1), 0, 3 without plates", y, 1, 1, 6, 6, -6, 0);
    }

    private static void rimOntoItself(Check check) {
        NetForms x = Nets.kite();
        Check.form(x, 0, 2, 5, 7);
        check.due("rim(0, 0), degree 2", x.rim(0, 0), 1);
        check.dueForm("rim(0, 0), degree 2", x, 0, 1, 5, 5, 2, 7, -7);
        x.set(0, 4, 1);
        check.due("rim(0, 0), degree 1", x.rim(0, 0), 0);
        check.dueForm("rim(0, 0), degree 1", x, 0, 0, -8, 0, 0, 8);
    }

    private static void rimOfPoints(Check check) {
        refused(check, "rim(0, 7)", x -> x.rim(0, 7), NO);
        refused(check, "rim(0, 0)", x -> x.rim(0, 0), NO);
    }

    private static void rimBeyond(Check check) {
        NetForms x = Check.net(3, 0, 1, 1, 2, 0, 2);
        Check.form(x, 0, 1, 500000, 0, 500000);
        check.due("rim(0, 1) within", x.rim(0, 1), 0);
        check.dueForm("rim(0, 1) within", x, 1, 0, -MILLION, 500000, 500000);
        Check.form(x, 0, 1, 0, 500000, 500000);
        check.due("rim(0, 1) within", x.rim(0, 1), 0);
        check.dueForm("rim(0, 1) within", x, 1, 0, -500000, -500000, MILLION);
        int[][] above = {{500000, 0, 500001}, {-500001, 0, -500000}, {0, 500001, 500000}, {MILLION, -1, 0},
            {-1, MILLION, 0}, {MILLION, MILLION, MILLION}, {-MILLION, -MILLION, -MILLION}};
        for (int[] v : above) {
            dueBeyond(check, "rim(0, 1)", 1, v, y -> y.rim(0, 1));
            dueBeyond(check, "rim(0, 0)", 1, v, y -> y.rim(0, 0));
        }
    }

    private static void rimOfPlatesBeyond(Check check) {
        NetForms x = Nets.kite();
        Check.form(x, 0, 2, -600000, 400000);
        check.due("rim(0, 1) within", x.rim(0, 1), 1);
        check.dueForm("rim(0, 1) within", x, 1, 1, -600000, -600000, MILLION, 400000, -400000);
        int[][] above = {{-600000, 400001}, {600001, -400000}, {MILLION, -MILLION}, {1, -MILLION}};
        for (int[] v : above) {
            String name = "rim(0, 1) of " + java.util.Arrays.toString(v);
            Refusal.due(check, name, () -> {
                NetForms y = Nets.kite();
                Check.form(y, 0, 2, v);
                Check.form(y, 1, 0, 4, 5, 6);
                return y;
            }, y -> y.rim(0, 1), BEYOND);
        }
    }

    private static void cupOfNothing(Check check) {
        NetForms x = Check.net(2);
        Check.form(x, 0, 0, MILLION, MILLION);
        x.form(1, 1);
        x.form(2, 2);
        int[][] pairs = {{0, 1}, {1, 0}, {1, 1}, {0, 2}, {2, 0}};
        for (int[] p : pairs) {
            String call = "cup(" + p[0] + ", " + p[1] + ", 3)";
            check.due(call, x.cup(p[0], p[1], 3), p[0] + p[1]);
            check.dueForm(call, x, 3, p[0] + p[1]);
        }
    }

    private static void cupOntoItself(Check check) {
        NetForms x = Nets.kite();
        Check.form(x, 0, 0, 2, 3, 5, 7);
        Check.form(x, 1, 1, 11, 13, 17, 19, 23);
        Check.form(x, 2, 1, 11, 13, 17, 19, 23);
        Check.form(x, 3, 0, 2, 3, 5, 7);
        check.due("cup(0, 1, 1)", x.cup(0, 1, 1), 1);
        check.dueForm("cup(0, 1, 1)", x, 1, 1, 22, 39, 34, 95, 46);
        check.due("cup(2, 0, 0)", x.cup(2, 0, 0), 1);
        check.dueForm("cup(2, 0, 0)", x, 0, 1, 33, 65, 85, 133, 161);
        check.due("cup(2, 2, 2)", x.cup(2, 2, 2), 2);
        check.dueForm("cup(2, 2, 2)", x, 2, 2, 143, 323);
        check.due("cup(3, 2, 3)", x.cup(3, 2, 3), 2);
        check.dueForm("cup(3, 2, 3)", x, 3, 2, 286, 646);
    }

    private static void cupAboveTwo(Check check) {
        refused(check, "cup(1, 2, 7)", x -> x.cup(1, 2, 7), NO);
        refused(check, "cup(2, 1, 7)", x -> x.cup(2, 1, 7), NO);
        refused(check, "cup(2, 2, 7)", x -> x.cup(2, 2, 7), NO);
        refused(check, "cup(2, 1, 1)", x -> x.cup(2, 1, 1), NO);
        check.due("cup(1, 1, 7), just 2", Nets.busy().cup(1, 1, 7), 2);
        check.due("cup(0, 2, 7), just 2", Nets.busy().cup(0, 2, 7), 2);
        check.due("cup(2, 0, 7), just 2", Nets.busy().cup(2, 0, 7), 2);
    }

    private static void cupBeyond(Check check) {
        int[][] products = {{1000, 1000}, {-1000, 1000}, {MILLION, 1}, {-1, MILLION}};
        int[][] above = {{1000, 1001}, {-1001, 1000}, {MILLION, 2}, {-2, 500001}, {MILLION, MILLION},
            {-MILLION, MILLION}, {65536, 65536}, {65536, 131072}};
        int[][] degrees = {{0, 0}, {0, 1}, {1, 0}, {1, 1}, {0, 2}, {2, 0}};
        for (int[] d : degrees) {
            for (int[] v : products) {
                NetForms x = pair(d, v);
                check.due("cup within, degrees " + d[0] + ", " + d[1], x.cup(0, 1, 2), d[0] + d[1]);
                check.due("cup within, degrees " + d[0] + ", " + d[1] + ": at 0", x.get(2, 0), v[0] * v[1]);
            }
            for (int[] v : above) {
                String name = v[0] + " by " + v[1] + ", degrees " + d[0] + ", " + d[1];
                Refusal.due(check, "cup(0, 1, 2) of " + name, () -> pair(d, v), x -> x.cup(0, 1, 2), BEYOND);
                Refusal.due(check, "cup(0, 1, 0) of " + name, () -> pair(d, v), x -> x.cup(0, 1, 0), BEYOND);
            }
        }
    }

    /** A triangle with form 0 of the first degree and number, form 1 of the second. */
    private static NetForms pair(int[] degrees, int[] numbers) {
        NetForms x = Check.net(3, 0, 1, 1, 2, 0, 2);
        x.face(0, 1, 2);
        for (int f = 0; f < 2; f++) {
            int v = numbers[f];
            Check.form(x, f, degrees[f], v, v, v);
        }
        Check.form(x, 2, 1, 4, 5, 6);
        return x;
    }

    private static void greatestFactors(Check check) {
        NetForms x = new NetForms();
        Check.form(x, 0, 0, 7);
        Check.form(x, 1, 0, 900);
        int[][] factors = {{1000, 0}, {-1000, 0}, {0, 1000}, {0, -1000}, {1000, -1000}, {-1000, 1000}, {0, 0}};
        for (int[] p : factors) {
            String call = "mix(0, " + p[0] + ", 1, " + p[1] + ", 2)";
            check.due(call, x.mix(0, p[0], 1, p[1], 2), 0);
            check.dueForm(call, x, 2, 0, 7 * p[0] + 900 * p[1]);
        }
    }

    private static void badFactors(Check check) {
        for (int v : Refusal.outside(-1000, 1000)) {
            refused(check, "mix(0, " + v + ", 3, 1, 7)", x -> x.mix(0, v, 3, 1, 7), BAD);
            refused(check, "mix(0, 1, 3, " + v + ", 7)", x -> x.mix(0, 1, 3, v, 7), BAD);
        }
    }

    private static void mixOntoItself(Check check) {
        NetForms x = Check.net(2);
        Check.form(x, 0, 0, 5, 6);
        Check.form(x, 1, 0, 1, -1);
        check.due("mix(0, 2, 1, 3, 1)", x.mix(0, 2, 1, 3, 1), 0);
        check.dueForm("mix(0, 2, 1, 3, 1)", x, 1, 0, 13, 9);
        check.due("mix(0, 2, 1, -1, 0)", x.mix(0, 2, 1, -1, 0), 0);
        check.dueForm("mix(0, 2, 1, -1, 0)", x, 0, 0, -3, 3);
        check.due("mix(0, 2, 0, -5, 0)", x.mix(0, 2, 0, -5, 0), 0);
        check.dueForm("mix(0, 2, 0, -5, 0)", x, 0, 0, 9, -9);
    }

    private static void degreesDiffer(Check check) {
        for (int f = 0; f < 3; f++) {
            for (int g = 0; g < 3; g++) {
                int left = f;
                int right = g;
                if (f != g) {
                    refused(check, "mix(" + f + ", 1, " + g + ", 1, 7)", x -> x.mix(left, 1, right, 1, 7), NO);
                    refused(check, "mix(" + f + ", 0, " + g + ", 0, 7)", x -> x.mix(left, 0, right, 0, 7), NO);
                }
            }
            check.due("mix(" + f + ", 1, " + f + ", 1, 7)", Nets.busy().mix(f, 1, f, 1, 7), f);
        }
    }

    private static void mixBeyond(Check check) {
        int[][] within = {{MILLION, 1, 0, 1}, {-MILLION, 1, MILLION, 0}, {MILLION, 1000, MILLION, -999},
            {1000, 1000, 0, 0}, {500000, 1, 500000, 1}, {-1000, 1000, 0, 0}};
        int[][] above = {{MILLION, 1, 1, 1}, {-MILLION, 1, -1, 1}, {MILLION, 1000, MILLION, -998}, {1001, 1000, 1, -999},
            {500000, 1, 500001, 1}, {MILLION, 1000, MILLION, 1000}, {MILLION, -1000, MILLION, -1000}, {0, 0, 500001, 2}};
        for (int[] v : within) {
            NetForms x = two(v);
            check.due("mix within", x.mix(0, v[1], 1, v[3], 2), 0);
            check.due("mix within, at 0", x.get(2, 0), (long) v[0] * v[1] + (long) v[2] * v[3]);
        }
        for (int[] v : above) {
            String name = java.util.Arrays.toString(v);
            Refusal.due(check, "mix onto another " + name, () -> two(v), x -> x.mix(0, v[1], 1, v[3], 2), BEYOND);
            Refusal.due(check, "mix onto itself " + name, () -> two(v), x -> x.mix(0, v[1], 1, v[3], 1), BEYOND);
        }
    }

    private static NetForms two(int[] v) {
        NetForms x = new NetForms();
        Check.form(x, 0, 0, v[0]);
        Check.form(x, 1, 0, v[2]);
        x.form(2, 1);
        return x;
    }

    /** Edges 01 02 03 04 12 13 14 23 24 34 05 15 have 1 .. 12, the plates 012, 013, .. have 1 .. 10, the points 1 .. 6. */
    private static NetForms counted() {
        NetForms x = Nets.allPlates();
        Check.form(x, 0, 0, 1, 2, 3, 4, 5, 6);
        Check.form(x, 1, 1, 1, 2, 3, 4, 5, 6, 7, 8, 9, 10, 11, 12);
        Check.form(x, 2, 2, 1, 2, 3, 4, 5, 6, 7, 8, 9, 10);
        return x;
    }

    private static void fullNet(Check check) {
        NetForms x = counted();
        check.due("slope(0, 3)", x.slope(0, 3), 1);
        check.dueForm("slope(0, 3)", x, 3, 1, 1, 2, 3, 4, 1, 2, 3, 1, 2, 1, 5, 4);
        check.due("slope(1, 3)", x.slope(1, 3), 2);
        check.dueForm("slope(1, 3)", x, 3, 2, 4, 4, 4, 7, 7, 9, 7, 7, 9, 9);
        check.due("rim(1, 3)", x.rim(1, 3), 0);
        check.dueForm("rim(1, 3)", x, 3, 0, -21, -29, -10, 7, 30, 23);
        check.due("rim(2, 3)", x.rim(2, 3), 1);
        check.dueForm("rim(2, 3)", x, 3, 1, 6, 8, 0, -14, 16, 4, -14, 21, 3, 25, 0, 0);
        check.due("cup(0, 1, 3)", x.cup(0, 1, 3), 1);
        check.dueForm("cup(0, 1, 3)", x, 3, 1, 1, 2, 3, 4, 10, 12, 14, 24, 27, 40, 11, 24);
        check.due("cup(1, 0, 3)", x.cup(1, 0, 3), 1);
        check.dueForm("cup(1, 0, 3)", x, 3, 1, 2, 6, 12, 20, 15, 24, 35, 32, 45, 50, 66, 72);
        check.due("cup(1, 1, 3)", x.cup(1, 1, 3), 2);
        check.dueForm("cup(1, 1, 3)", x, 3, 2, 5, 6, 7, 16, 18, 30, 40, 45, 60, 80);
        check.due("cup(0, 2, 3)", x.cup(0, 2, 3), 2);
        check.dueForm("cup(0, 2, 3)", x, 3, 2, 1, 2, 3, 4, 5, 6, 14, 16, 18, 30);
        check.due("cup(2, 0, 3)", x.cup(2, 0, 3), 2);
        check.dueForm("cup(2, 0, 3)", x, 3, 2, 3, 8, 15, 16, 25, 30, 28, 40, 45, 50);
        check.due("cup(0, 0, 3)", x.cup(0, 0, 3), 0);
        check.dueForm("cup(0, 0, 3)", x, 3, 0, 1, 4, 9, 16, 25, 36);
        int[] sizes = {6, 12, 10};
        for (int f = 0; f < 3; f++) {
            int[] due = new int[sizes[f]];
            for (int k = 0; k < due.length; k++) {
                due[k] = -2 * (k + 1);
            }
            check.due("mix(" + f + ", 3, " + f + ", -5, 3)", x.mix(f, 3, f, -5, 3), f);
            check.dueForm("mix(" + f + ", 3, " + f + ", -5, 3)", x, 3, f, due);
        }
    }

    private static void badAbout(Check check) {
        for (int what : Refusal.outside(0, 3)) {
            for (int f = 0; f < 3; f++) {
                int form = f;
                refused(check, "about(" + f + ", " + what + ")", x -> x.about(form, what), BAD);
            }
        }
    }

    private static void allZero(Check check) {
        int[] sizes = {6, 12, 10};
        for (int degree = 0; degree < 3; degree++) {
            NetForms x = Nets.allPlates();
            x.form(0, degree);
            check.due("about(0, 1) of 0", x.about(0, 1), 1);
            for (int k = 0; k < sizes[degree]; k++) {
                x.set(0, k, -1);
                check.due("about(0, 1), not 0 at " + k, x.about(0, 1), 0);
                x.set(0, k, 0);
                check.due("about(0, 1) of 0 again", x.about(0, 1), 1);
            }
            NetForms y = new NetForms();
            y.form(0, degree);
            check.due("about(0, 1) of the least net, degree " + degree, y.about(0, 1), 1);
        }
    }

    private static void slopeIsZero(Check check) {
        NetForms x = Nets.allPlates();
        Check.form(x, 0, 0, 3, 3, 3, 3, 3, 3);
        check.due("about(0, 2), alike everywhere", x.about(0, 2), 1);
        x.set(0, 5, 4);
        check.due("about(0, 2), but for the last", x.about(0, 2), 0);
        x.form(1, 1);
        for (int e = 0; e < 10; e++) {
            x.set(1, e, 1);
            check.due("about(1, 2), 1 at " + e, x.about(1, 2), 0);
            x.set(1, e, 0);
        }
        x.set(1, 11, 8);
        check.due("about(1, 2), at an edge without plates", x.about(1, 2), 1);
        x.form(2, 2);
        check.due("about(2, 2), degree 2, of 0", x.about(2, 2), 1);
        x.set(2, 9, 8);
        check.due("about(2, 2), degree 2", x.about(2, 2), 1);
        NetForms y = Check.net(2);
        Check.form(y, 0, 0, 3, 8);
        check.due("about(0, 2) without edges", y.about(0, 2), 1);
        y.edge(0, 1);
        check.due("about(0, 2) with the edge", y.about(0, 2), 0);
        Check.form(y, 0, 0, MILLION, -MILLION);
        check.due("about(0, 2) beyond a form's numbers", y.about(0, 2), 0);
    }

    private static void rimIsZero(Check check) {
        NetForms x = Nets.allPlates();
        Check.form(x, 0, 0, 3, 4, 5, 6, 7, 8);
        check.due("about(0, 3), degree 0", x.about(0, 3), 1);
        x.form(1, 1);
        check.due("about(1, 3) of 0", x.about(1, 3), 1);
        for (int e = 0; e < 12; e++) {
            x.set(1, e, 1);
            check.due("about(1, 3), 1 at " + e, x.about(1, 3), 0);
            x.set(1, e, 0);
        }
        // The round 0, 1, 5.
        x.set(1, 0, 2);
        x.set(1, 11, 2);
        x.set(1, 10, -2);
        check.due("about(1, 3) of a round", x.about(1, 3), 1);
        x.form(2, 2);
        check.due("about(2, 3) of 0", x.about(2, 3), 1);
        for (int p = 0; p < 10; p++) {
            x.set(2, p, 1);
            check.due("about(2, 3), 1 at " + p, x.about(2, 3), 0);
            x.set(2, p, 0);
        }
        NetForms y = new NetForms();
        y.form(0, 1);
        y.form(1, 2);
        check.due("about(0, 3) without edges", y.about(0, 3), 1);
        check.due("about(1, 3) without plates", y.about(1, 3), 1);
    }

    /** The only edge that has a number, and the only plate, stand behind all others. */
    private static void lastOnesCount(Check check) {
        NetForms x = Check.net(6, 4, 5);
        Check.form(x, 0, 1, 3);
        check.due("about(0, 3), at the last points alone", x.about(0, 3), 0);
        NetForms y = Check.net(6, 0, 1, 1, 2, 2, 3, 3, 4, 4, 5, 3, 5);
        y.face(3, 4, 5);
        Check.form(y, 0, 2, 3);
        check.due("about(0, 3), at the last edges alone", y.about(0, 3), 0);
        Check.form(y, 1, 1, 0, 0, 0, 0, 0, 3);
        check.due("about(1, 2), the last edge alone", y.about(1, 2), 0);
        Check.form(y, 2, 0, 3, 3, 3, 3, 3, 4);
        check.due("about(2, 2), the last point alone", y.about(2, 2), 0);
    }

    /** What other calls told, or refused as beyond, does not count here. */
    private static void aboutForgets(Check check) {
        NetForms x = Nets.allPlates();
        x.form(0, 0);
        x.form(1, 1);
        x.form(2, 2);
        x.form(4, 1);
        for (int e = 0; e < 12; e++) {
            x.set(4, e, 1000000);
        }
        for (int f = 0; f < 3; f++) {
            for (int what = 1; what < 4; what++) {
                check.due("mix(4, 2, 4, 2, 5)", x.mix(4, 2, 4, 2, 5), BEYOND);
                check.due("about(" + f + ", " + what + ") behind it", x.about(f, what), 1);
            }
        }
    }
}
