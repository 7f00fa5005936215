import java.math.BigInteger;

/** The sentences on the wave that name a boundary case: promises 21 to 25. */
public final class WaveBoundsTest {
    private static final int BAD = NetForms.BAD, NO = NetForms.NO;
    private static final int[] GREAT = {1000000, -3, 17, 0, 5};

    public static void main(String[] args) {
        Sentences s = new Sentences();
        s.test("wave: n STEPS, 1 .. 100", WaveBoundsTest::mostSteps);
        s.test("wave: below 0: BACK, -100 .. -1", WaveBoundsTest::mostStepsBack);
        s.test("wave: BAD", WaveBoundsTest::badWave);
        s.test("wave: how many STEPS it is from where it began", WaveBoundsTest::stepsFromTheBeginning);
        s.test("A STEP: FLOWS first, HEIGHTS then", WaveBoundsTest::flowsFirst);
        s.test("A STEP: a POINT without EDGES, a net without EDGES", WaveBoundsTest::withoutEdges);
        s.test("A STEP BACK undoes a STEP", WaveBoundsTest::backUndoes);
        s.test("A STEP BACK ahead of the first STEP", WaveBoundsTest::backAheadOfTheFirst);
        s.test("HEIGHT: a long, wrapping", WaveBoundsTest::heightsWrap);
        s.test("FLOW: a long, wrapping", WaveBoundsTest::flowsWrap);
        s.test("sum: All HEIGHTS together (wrapping)", WaveBoundsTest::sumWraps);
        s.test("THE WAVE: 0 at first, on an EDGE that comes later", WaveBoundsTest::laterEdge);
        s.test("raise: of DEGREE 0: HEIGHTS; the others 0", WaveBoundsTest::raiseHeights);
        s.test("raise: of DEGREE 1: FLOWS; the others 0", WaveBoundsTest::raiseFlows);
        s.test("raise: it has gone no STEPS", WaveBoundsTest::raiseForgetsSteps);
        s.test("raise: of a FORM with 0", WaveBoundsTest::raiseOfZero);
        s.test("raise: BAD", WaveBoundsTest::badRaise);
        s.test("raise: NO: DEGREE 2", WaveBoundsTest::raiseOfPlates);
        s.test("height: BAD: 0", WaveBoundsTest::badHeight);
        s.test("flow: BAD: 0", WaveBoundsTest::badFlow);
        s.test("sum: of one POINT, of none raised", WaveBoundsTest::leastSum);
        s.end();
    }

    /** Two points that swing: heights 5, 1 come again every four steps. */
    private static NetForms swing() {
        NetForms x = Check.net(2, 0, 1);
        Check.form(x, 0, 0, 5, 1);
        x.raise(0);
        return x;
    }

    private static void dueSwing(Check check, String name, NetForms x, long h0, long h1, long flow) {
        check.due(name + ": height(0)", x.height(0), h0);
        check.due(name + ": height(1)", x.height(1), h1);
        check.due(name + ": flow(0)", x.flow(0), flow);
        check.due(name + ": sum()", x.sum(), h0 + h1);
    }

    private static void mostSteps(Check check) {
        long[][] due = {{5, 1, 0}, {1, 5, 4}, {1, 5, 0}, {5, 1, -4}};
        for (int n : new int[] {1, 2, 3, 98, 99, 100}) {
            NetForms x = swing();
            check.due("wave(" + n + ")", x.wave(n), n);
            long[] d = due[n % 4];
            dueSwing(check, "wave(" + n + ")", x, d[0], d[1], d[2]);
        }
    }

    private static void mostStepsBack(Check check) {
        long[][] due = {{5, 1, 0}, {5, 1, -4}, {1, 5, 0}, {1, 5, 4}};
        for (int n : new int[] {1, 2, 3, 98, 99, 100}) {
            NetForms x = swing();
            check.due("wave(" + -n + ")", x.wave(-n), -n);
            long[] d = due[n % 4];
            dueSwing(check, "wave(" + -n + ")", x, d[0], d[1], d[2]);
        }
    }

    private static void badWave(Check check) {
        for (int n : Refusal.outside(-100, 100)) {
            Refusal.due(check, "wave(" + n + ")", Nets::busy, x -> x.wave(n), BAD);
        }
        Refusal.due(check, "wave(0)", Nets::busy, x -> x.wave(0), BAD);
        Refusal.due(check, "wave(0), a new object", NetForms::new, x -> x.wave(0), BAD);
    }

    private static void stepsFromTheBeginning(Check check) {
        NetForms x = swing();
        int[][] calls = {{100, 100}, {100, 200}, {1, 201}, {-100, 101}, {-100, 1}, {-1, 0}, {-1, -1}, {-100, -101},
            {100, -1}, {2, 1}};
        for (int[] c : calls) {
            check.due("wave(" + c[0] + ")", x.wave(c[0]), c[1]);
        }
        dueSwing(check, "one step at last", x, 1, 5, 4);
    }

    private static void flowsFirst(Check check) {
        NetForms x = Check.net(3, 0, 1, 1, 2);
        Check.form(x, 0, 0, 7, 0, 0);
        x.raise(0);
        x.wave(1);
        dueWave(check, "one step", x, 0, 7, 0, 7, 0);
        // The flow of 01 sees both heights as they were, and 1 changes by both flows at once.
        x.wave(1);
        dueWave(check, "two steps", x, 0, 0, 7, 0, 7);
        x.wave(1);
        dueWave(check, "three steps", x, 0, 0, 7, 0, 0);
        x.wave(1);
        dueWave(check, "four steps", x, 0, 7, 0, 0, -7);
    }

    private static void dueWave(Check check, String name, NetForms x, long h0, long h1, long h2, long f0, long f1) {
        long[] heights = {h0, h1, h2};
        for (int p = 0; p < 3; p++) {
            check.due(name + ": height(" + p + ")", x.height(p), heights[p]);
        }
        check.due(name + ": flow(0)", x.flow(0), f0);
        check.due(name + ": flow(1)", x.flow(1), f1);
    }

    private static void withoutEdges(Check check) {
        NetForms x = new NetForms();
        Check.form(x, 0, 0, 1000000);
        x.raise(0);
        check.due("wave(100), one point", x.wave(100), 100);
        check.due("height(0)", x.height(0), 1000000);
        NetForms y = Check.net(3, 0, 2);
        Check.form(y, 0, 0, 5, 42, 1);
        y.raise(0);
        check.due("wave(1), 1 without edges", y.wave(1), 1);
        check.due("height(0)", y.height(0), 1);
        check.due("height(1)", y.height(1), 42);
        check.due("height(2)", y.height(2), 5);
    }

    private static void backUndoes(Check check) {
        for (int n : new int[] {1, 2, 50, 100}) {
            NetForms x = grown(0);
            long before = x.digest();
            check.due("wave(" + n + ")", x.wave(n), n);
            check.due("it has changed", x.digest() != before ? 1 : 0, 1);
            check.due("wave(" + -n + ")", x.wave(-n), 0);
            check.due("digest() behind wave(" + -n + ")", x.digest(), before);
        }
    }

    private static void backAheadOfTheFirst(Check check) {
        for (int n : new int[] {1, 2, 50, 100}) {
            NetForms x = grown(0);
            long before = x.digest();
            check.due("wave(" + -n + ")", x.wave(-n), -n);
            check.due("it has changed", x.digest() != before ? 1 : 0, 1);
            check.due("wave(" + n + ")", x.wave(n), 0);
            check.due("digest() behind wave(" + n + ")", x.digest(), before);
        }
    }

    /** Where five points have all their edges the wave grows without end: behind 100 steps it has long outgrown a long. */
    private static NetForms grown(int steps) {
        NetForms x = Check.net(5, Nets.FIVE_POINTS);
        Check.form(x, 0, 0, GREAT);
        x.raise(0);
        if (steps > 0) {
            x.wave(steps);
        }
        return x;
    }

    /** Up to some steps the numbers are the true ones, far above an int; then they wrap. */
    private static void heightsWrap(Check check) {
        for (int steps : new int[] {12, 30, 45, 100}) {
            dueTrue(check, "height", new TrueWave(Nets.FIVE_POINTS, GREAT).step(steps).heights, steps, NetForms::height);
        }
    }

    private static void flowsWrap(Check check) {
        for (int steps : new int[] {12, 30, 45, 100}) {
            dueTrue(check, "flow", new TrueWave(Nets.FIVE_POINTS, GREAT).step(steps).flows, steps, NetForms::flow);
        }
    }

    private interface Teller {
        long tell(NetForms x, int k);
    }

    private static void dueTrue(Check check, String name, BigInteger[] due, int steps, Teller teller) {
        NetForms x = grown(steps);
        check.due("the true " + name + " is above a long", due[0].bitLength() > 63 ? 1 : 0, steps >= 45 ? 1 : 0);
        for (int k = 0; k < due.length; k++) {
            check.due("wave(" + steps + "): " + name + "(" + k + ")", teller.tell(x, k), due[k].longValue());
        }
    }

    /** The sum stays, though single heights have wrapped. */
    private static void sumWraps(Check check) {
        NetForms x = grown(0);
        check.due("sum()", x.sum(), 1000019);
        for (int i = 0; i < 12; i++) {
            x.wave(50);
            check.due("sum() behind " + 50 * (i + 1) + " steps", x.sum(), 1000019);
            long all = 0;
            for (int p = 0; p < 5; p++) {
                all += x.height(p);
            }
            check.due("all heights together", all, 1000019);
        }
        x.wave(-100);
        check.due("sum() behind steps back", x.sum(), 1000019);
    }

    private static void laterEdge(Check check) {
        NetForms x = Check.net(3, 0, 1);
        Check.form(x, 0, 0, 4, 0, 1);
        x.raise(0);
        x.wave(1);
        x.edge(1, 2);
        check.due("flow(1), the later edge", x.flow(1), 0);
        check.due("height(1)", x.height(1), 4);
        check.due("wave(1), counted on", x.wave(1), 2);
        dueWave(check, "a step with the later edge", x, 0, 1, 4, 0, 3);
        // An edge of an earlier net had a flow here.
        x.net(3);
        x.edge(0, 1);
        x.edge(0, 2);
        check.due("flow(1) of a new net", x.flow(1), 0);
    }

    private static NetForms six() {
        NetForms x = Nets.allPlates();
        Check.form(x, 0, 0, 1000000, -1000000, 3, 4, 5, -6);
        Check.form(x, 1, 1, 1, 2, 3, 4, 5, 6, 7, 8, 9, 10, -1000000, 1000000);
        x.form(2, 2);
        return x;
    }

    private static void raiseHeights(Check check) {
        NetForms x = six();
        x.raise(1);
        x.wave(1);
        check.due("raise(0)", x.raise(0), 1);
        long[] heights = {1000000, -1000000, 3, 4, 5, -6};
        for (int p = 0; p < 6; p++) {
            check.due("height(" + p + ")", x.height(p), heights[p]);
        }
        for (int e = 0; e < 12; e++) {
            check.due("flow(" + e + ")", x.flow(e), 0);
        }
        check.due("sum()", x.sum(), 6);
    }

    private static void raiseFlows(Check check) {
        NetForms x = six();
        x.raise(0);
        x.wave(1);
        check.due("raise(1)", x.raise(1), 1);
        for (int p = 0; p < 6; p++) {
            check.due("height(" + p + ")", x.height(p), 0);
        }
        for (int e = 0; e < 12; e++) {
            check.due("flow(" + e + ")", x.flow(e), e < 10 ? e + 1 : e == 10 ? -1000000 : 1000000);
        }
        check.due("sum()", x.sum(), 0);
    }

    private static void raiseForgetsSteps(Check check) {
        NetForms x = six();
        x.wave(7);
        x.raise(0);
        check.due("wave(1) behind raise(0)", x.wave(1), 1);
        x.wave(-9);
        x.raise(1);
        check.due("wave(-1) behind raise(1)", x.wave(-1), -1);
        // The form may change then, and the wave stays.
        x.raise(0);
        x.set(0, 0, 9);
        x.form(0, 2);
        check.due("height(0)", x.height(0), 1000000);
    }

    private static void raiseOfZero(Check check) {
        for (int degree = 0; degree < 2; degree++) {
            NetForms x = six();
            x.raise(0);
            x.wave(1);
            x.form(4, degree);
            check.due("raise(4), degree " + degree, x.raise(4), 1);
            for (int p = 0; p < 6; p++) {
                check.due("height(" + p + ")", x.height(p), 0);
            }
            for (int e = 0; e < 12; e++) {
                check.due("flow(" + e + ")", x.flow(e), 0);
            }
        }
        NetForms y = new NetForms();
        y.form(0, 1);
        check.due("raise(0) without edges", y.raise(0), 1);
    }

    private static void badRaise(Check check) {
        for (int f : Refusal.outside(0, 11)) {
            Refusal.due(check, "raise(" + f + ")", Nets::busy, x -> x.raise(f), BAD);
        }
        check.due("raise(11)", Nets.busy().raise(11), 1);
    }

    private static void raiseOfPlates(Check check) {
        Refusal.due(check, "raise(2)", Nets::busy, x -> x.raise(2), NO);
        NetForms x = new NetForms();
        x.form(0, 2);
        check.due("raise(0) without plates", x.raise(0), NO);
    }

    private static void badHeight(Check check) {
        for (int n = 1; n <= 6; n++) {
            NetForms x = Check.net(n);
            for (int p = 0; p < n; p++) {
                x.set(0, p, 100 + p);
            }
            x.raise(0);
            check.due("height(" + (n - 1) + ")", x.height(n - 1), 99 + n);
            for (int p : Refusal.outside(0, n - 1)) {
                check.due(n + " points: height(" + p + ")", x.height(p), 0);
            }
        }
    }

    private static void badFlow(Check check) {
        check.due("flow(0) without edges", new NetForms().flow(0), 0);
        for (int n = 2; n <= 6; n++) {
            NetForms x = Check.net(n);
            x.form(0, 1);
            for (int b = 1; b < n; b++) {
                x.edge(0, b);
                x.set(0, b - 1, 100 + b);
            }
            x.raise(0);
            check.due("flow(" + (n - 2) + ")", x.flow(n - 2), 99 + n);
            for (int e : Refusal.outside(0, n - 2)) {
                check.due(n - 1 + " edges: flow(" + e + ")", x.flow(e), 0);
            }
        }
        NetForms x = six();
        x.raise(1);
        check.due("flow(11)", x.flow(11), 1000000);
        check.due("flow(12)", x.flow(12), 0);
    }

    private static void leastSum(Check check) {
        NetForms x = new NetForms();
        check.due("sum() of a new object", x.sum(), 0);
        Check.form(x, 0, 0, -1000000);
        check.due("sum() of none raised", x.sum(), 0);
        x.raise(0);
        check.due("sum() of one point", x.sum(), -1000000);
        NetForms y = Check.net(6);
        Check.form(y, 0, 0, 1000000, 1000000, 1000000, 1000000, 1000000, 1000000);
        y.raise(0);
        check.due("sum() of the greatest", y.sum(), 6000000);
    }
}
