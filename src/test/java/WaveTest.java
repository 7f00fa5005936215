/** Promises 21 to 25: wave, raise, height, flow, sum. */
public final class WaveTest {
    private static final int MIN = Integer.MIN_VALUE, MAX = Integer.MAX_VALUE;
    private static final Check check = new Check();

    public static void main(String[] args) {
        stepByStep();
        raise();
        edgesOnTheWay();
        wrapping();
        refused();
        check.end();
    }

    private static void dueWave(String call, NetForms x, long h0, long h1, long flow) {
        check.due(call + ": height(0)", x.height(0), h0);
        check.due(call + ": height(1)", x.height(1), h1);
        check.due(call + ": flow(0)", x.flow(0), flow);
        check.due(call + ": sum()", x.sum(), h0 + h1);
    }

    private static void stepByStep() {
        NetForms x = Check.net(2, 0, 1);
        Check.form(x, 0, 0, 5, 1);
        check.due("raise(0)", x.raise(0), 1);
        dueWave("raise(0)", x, 5, 1, 0);
        long[][] due = {{1, 5, 4}, {1, 5, 0}, {5, 1, -4}, {5, 1, 0}, {1, 5, 4}};
        for (int i = 0; i < due.length; i++) {
            check.due("wave(1)", x.wave(1), i + 1);
            dueWave("wave(1) no " + (i + 1), x, due[i][0], due[i][1], due[i][2]);
        }
        check.due("wave(-4)", x.wave(-4), 1);
        dueWave("wave(-4)", x, 1, 5, 4);
        check.due("wave(-2)", x.wave(-2), -1);
        dueWave("wave(-2)", x, 5, 1, -4);
        check.due("wave(2)", x.wave(2), 1);
        dueWave("wave(2)", x, 1, 5, 4);
    }

    private static void raise() {
        NetForms x = Check.net(3, 0, 1, 1, 2, 0, 2);
        x.face(0, 1, 2);
        Check.form(x, 0, 0, 5, 6, 7);
        Check.form(x, 1, 1, -8, 9, 1000000);
        x.form(2, 2);
        x.raise(0);
        x.wave(7);
        check.due("raise(1)", x.raise(1), 1);
        long[] flows = {-8, 9, 1000000};
        for (int k = 0; k < 3; k++) {
            check.due("raise(1): height(" + k + ")", x.height(k), 0);
            check.due("raise(1): flow(" + k + ")", x.flow(k), flows[k]);
        }
        check.due("raise(1): wave(1)", x.wave(1), 1);
        check.due("raise(1), wave(1): height(0)", x.height(0), -999992);
        check.due("raise(1), wave(1): height(1)", x.height(1), -17);
        check.due("raise(1), wave(1): height(2)", x.height(2), 1000009);
        check.due("raise(0)", x.raise(0), 1);
        for (int k = 0; k < 3; k++) {
            check.due("raise(0): height(" + k + ")", x.height(k), 5 + k);
            check.due("raise(0): flow(" + k + ")", x.flow(k), 0);
        }
        x.set(0, 1, 100);
        check.due("set behind raise: height(1)", x.height(1), 6);
        check.due("raise(0): sum()", x.sum(), 18);
        x.wave(3);
        long before = x.digest();
        check.unchanged("raise(2), degree 2", x.raise(2), NetForms.NO, x, before);
        for (int f : new int[] {-1, 12, MIN, MAX}) {
            check.unchanged("raise(" + f + ")", x.raise(f), NetForms.BAD, x, before);
        }
        check.due("refused raises: wave(1)", x.wave(1), 4);
    }

    private static void edgesOnTheWay() {
        NetForms x = Check.net(3, 0, 1);
        Check.form(x, 0, 0, 4, 0, 1);
        x.raise(0);
        x.wave(1);
        x.edge(1, 2);
        check.due("an edge on the way: flow(1)", x.flow(1), 0);
        check.due("an edge on the way: wave(1)", x.wave(1), 2);
        check.due("an edge on the way: height(0)", x.height(0), 0);
        check.due("an edge on the way: height(1)", x.height(1), 1);
        check.due("an edge on the way: height(2)", x.height(2), 4);
        check.due("an edge on the way: flow(0)", x.flow(0), 0);
        check.due("an edge on the way: flow(1)", x.flow(1), 3);
        check.due("an edge on the way: sum()", x.sum(), 5);
    }

    /** Where five points have all their edges the wave grows without end. */
    private static void wrapping() {
        NetForms x = Check.net(5, Nets.FIVE_POINTS);
        Check.form(x, 0, 0, 1000000, -3, 17, 0, 5);
        x.raise(0);
        long before = x.digest();
        check.due("wave(100)", x.wave(100), 100);
        TrueWave due = new TrueWave(Nets.FIVE_POINTS, 1000000, -3, 17, 0, 5).step(100);
        check.due("the true height has outgrown a long", due.heights[0].bitLength() > 64 ? 1 : 0, 1);
        for (int p = 0; p < 5; p++) {
            check.due("wave(100): height(" + p + ")", x.height(p), due.heights[p].longValue());
        }
        for (int e = 0; e < 10; e++) {
            check.due("wave(100): flow(" + e + ")", x.flow(e), due.flows[e].longValue());
        }
        check.due("wave(100): sum()", x.sum(), 1000019);
        check.due("wave(-100)", x.wave(-100), 0);
        check.due("wave(-100): digest()", x.digest(), before);
    }

    private static void refused() {
        NetForms x = Check.net(2, 0, 1);
        Check.form(x, 0, 0, 5, 1);
        x.raise(0);
        x.wave(1);
        long before = x.digest();
        for (int n : new int[] {0, 101, -101, MIN, MAX}) {
            check.unchanged("wave(" + n + ")", x.wave(n), NetForms.BAD, x, before);
        }
        check.due("wave(1) behind refused ones", x.wave(1), 2);
        for (int k : new int[] {-1, 2, 6, 12, MIN, MAX}) {
            check.due("height(" + k + ")", x.height(k), 0);
        }
        x.wave(-1);
        for (int k : new int[] {-1, 1, 6, 12, MIN, MAX}) {
            check.due("flow(" + k + ")", x.flow(k), 0);
        }
    }
}
