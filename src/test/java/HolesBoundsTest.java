/** The sentences on holes, potentials and splits that name a boundary case: promises 14 to 16. */
public final class HolesBoundsTest {
    private static final int BAD = NetForms.BAD, NO = NetForms.NO, BEYOND = NetForms.BEYOND, NONE = NetForms.NONE;
    private static final int MILLION = 1000000;

    public static void main(String[] args) {
        Sentences s = new Sentences();
        s.test("holes: BAD", HolesBoundsTest::badHoles);
        s.test("HOLES of degree 0: 0 everywhere counts as a SLOPE, and nothing else of DEGREE 0", HolesBoundsTest::holesOfPoints);
        s.test("HOLES of degree 1: 0 everywhere counts as a SLOPE", HolesBoundsTest::holesOfEdges);
        s.test("HOLES of degree 2: all are without SLOPE", HolesBoundsTest::holesOfPlates);
        s.test("HOLES: of the least net and of the full net", HolesBoundsTest::holesAtTheEnds);
        s.test("potential: 0 at the least POINT of each part", HolesBoundsTest::leastPoints);
        s.test("potential: of a net without EDGES", HolesBoundsTest::potentialOfNothing);
        s.test("potential: perhaps onto itself", HolesBoundsTest::potentialOntoItself);
        s.test("ROUND: the first EDGE, as they came", HolesBoundsTest::firstEdge);
        s.test("ROUND: one that joins two parts joins them", HolesBoundsTest::joiningEdge);
        s.test("potential: the EDGE that forbids it (g stays)", HolesBoundsTest::targetStays);
        s.test("potential: BAD", HolesBoundsTest::badPotential);
        s.test("potential: NO: f is not of DEGREE 1", HolesBoundsTest::potentialOfOthers);
        s.test("potential: BEYOND", HolesBoundsTest::potentialBeyond);
        s.test("potential: BEYOND (behind what forbids)", HolesBoundsTest::forbiddenAheadOfBeyond);
        s.test("split: part 0 SLOPE, 1 RIM, 2 STILL", HolesBoundsTest::threeParts);
        s.test("split: of a net without PLATES", HolesBoundsTest::splitWithoutPlates);
        s.test("split: of a net without rounds", HolesBoundsTest::splitWithoutRounds);
        s.test("split: just one, though PLATES close a hollow", HolesBoundsTest::splitOfHollow);
        s.test("FRACTIONS: in lowest terms", HolesBoundsTest::lowestTerms);
        s.test("FRACTIONS: below above 0", HolesBoundsTest::belowAboveZero);
        s.test("split: 0: BAD", HolesBoundsTest::badSplit);
        s.test("split: 0: f is not of DEGREE 1", HolesBoundsTest::splitOfOthers);
        s.test("split: BEYOND: above 1000 in size: -5", HolesBoundsTest::splitBeyond);
        s.test("split: BEYOND: one of f's numbers", HolesBoundsTest::splitBeyondElsewhere);
        s.end();
    }

    private static void badHoles(Check check) {
        for (int degree : Refusal.outside(0, 2)) {
            Refusal.due(check, "holes(" + degree + ")", Nets::busy, x -> x.holes(degree), BAD);
        }
    }

    private static void dueHoles(Check check, String net, NetForms x, int... due) {
        for (int degree = 0; degree < 3; degree++) {
            check.due(net + ": holes(" + degree + ")", x.holes(degree), due[degree]);
        }
    }

    private static void holesOfPoints(Check check) {
        NetForms x = Check.net(6);
        int[][] steps = {{4, 5, 5}, {3, 5, 4}, {3, 4, 4}, {0, 1, 3}, {1, 2, 2}, {0, 2, 2}, {2, 5, 1}, {0, 5, 1}};
        check.due("holes(0) without edges", x.holes(0), 6);
        for (int[] step : steps) {
            x.edge(step[0], step[1]);
            check.due("holes(0) behind edge(" + step[0] + ", " + step[1] + ")", x.holes(0), step[2]);
        }
    }

    private static void holesOfEdges(Check check) {
        NetForms x = Check.net(5, 0, 1, 1, 2);
        check.due("holes(1), no round", x.holes(1), 0);
        x.edge(0, 2);
        check.due("holes(1), a round", x.holes(1), 1);
        x.edge(3, 4);
        check.due("holes(1), another part", x.holes(1), 1);
        x.face(0, 1, 2);
        check.due("holes(1), the round filled", x.holes(1), 0);
        x.edge(0, 3);
        x.edge(0, 4);
        check.due("holes(1), a second round", x.holes(1), 1);
        x.edge(1, 4);
        check.due("holes(1), a third round", x.holes(1), 2);
        x.face(0, 1, 4);
        x.face(0, 3, 4);
        check.due("holes(1), all filled", x.holes(1), 0);
    }

    private static void holesOfPlates(Check check) {
        NetForms x = Nets.allEdges();
        int[][] plates = {{0, 1, 2}, {0, 1, 3}, {0, 2, 3}, {1, 2, 3}, {0, 1, 4}, {0, 2, 4}, {1, 2, 4}};
        int[] due = {0, 0, 0, 1, 1, 1, 2};
        check.due("holes(2) without plates", x.holes(2), 0);
        for (int i = 0; i < plates.length; i++) {
            x.face(plates[i][0], plates[i][1], plates[i][2]);
            check.due("holes(2), plates " + (i + 1), x.holes(2), due[i]);
        }
    }

    private static void holesAtTheEnds(Check check) {
        dueHoles(check, "a new object", new NetForms(), 1, 0, 0);
        dueHoles(check, "six points", Check.net(6), 6, 0, 0);
        dueHoles(check, "twelve edges", Nets.allEdges(), 1, 7, 0);
        dueHoles(check, "ten plates", Nets.allPlates(), 1, 1, 4);
    }

    private static void leastPoints(Check check) {
        NetForms x = Check.net(6, 4, 5, 1, 5, 2, 3);
        Check.form(x, 3, 1, 3, 8, -2);
        Check.form(x, 4, 2);
        check.due("potential(3, 4)", x.potential(3, 4), NONE);
        check.dueForm("potential(3, 4)", x, 4, 0, 0, 0, 0, -2, 5, 8);
        // The parts 0, 5 and 1, 4 are joined last, by an edge that has neither least point.
        x = Check.net(6, 0, 5, 1, 4, 4, 5);
        Check.form(x, 0, 1, 10, 20, 300);
        check.due("potential(0, 1)", x.potential(0, 1), NONE);
        check.dueForm("potential(0, 1)", x, 1, 0, 0, -310, 0, 0, -290, 10);
    }

    private static void potentialOfNothing(Check check) {
        NetForms x = Check.net(6);
        x.form(0, 1);
        Check.form(x, 1, 0, 7, 7, 7, 7, 7, 7);
        check.due("potential(0, 1)", x.potential(0, 1), NONE);
        check.dueForm("potential(0, 1)", x, 1, 0, 0, 0, 0, 0, 0, 0);
    }

    private static void potentialOntoItself(Check check) {
        NetForms x = Nets.allEdges();
        Check.form(x, 0, 0, 0, 5, -3, 8, 2, 1);
        x.slope(0, 1);
        check.due("potential(1, 1)", x.potential(1, 1), NONE);
        check.dueForm("potential(1, 1)", x, 1, 0, 0, 5, -3, 8, 2, 1);
    }

    /** The edges 02 and 03 close a round each; which is told is a matter of their order alone. */
    private static void firstEdge(Check check) {
        NetForms x = Check.net(4, 0, 1, 1, 2, 2, 3, 0, 3, 0, 2);
        Check.form(x, 0, 1, 1, 1, 1, 0, 0);
        check.due("both rounds are open", x.potential(0, 1), 3);
        x.set(0, 3, 3);
        check.due("the second is open", x.potential(0, 1), 4);
        x.set(0, 4, 2);
        check.due("both close", x.potential(0, 1), NONE);
        x = Check.net(4, 0, 1, 1, 2, 0, 2, 2, 3, 0, 3);
        Check.form(x, 0, 1, 1, 1, 0, 1, 0);
        check.due("both rounds are open, 02 came first", x.potential(0, 1), 2);
        // The last of twelve.
        x = Nets.allEdges();
        x.form(0, 1);
        x.set(0, 11, -1);
        check.due("the last edge forbids", x.potential(0, 1), 11);
    }

    /** An edge that joins never forbids, whatever it has; rounds go by the edges ahead alone. */
    private static void joiningEdge(Check check) {
        NetForms x = Check.net(6, 0, 1, 2, 3, 4, 5, 1, 2, 3, 4, 0, 5);
        Check.form(x, 0, 1, MILLION, -MILLION, 5, -7, -9, 0);
        check.due("the round of all is open", x.potential(0, 1), 5);
        x.set(0, 5, -11);
        check.due("the round of all closes", x.potential(0, 1), NONE);
        // 12 joins the parts 01 and 23 before 02 comes; a wrong number there shows at 02, not at 12.
        x = Check.net(4, 2, 3, 0, 1, 1, 2, 0, 2, 1, 3);
        Check.form(x, 0, 1, 1, 1, 9, 2, 2);
        check.due("the joining edge is wrong", x.potential(0, 1), 3);
    }

    private static void targetStays(Check check) {
        Refusal.due(check, "potential(1, 0)", Nets::busy, x -> x.potential(1, 0), 4);
        Refusal.due(check, "potential(1, 1)", Nets::busy, x -> x.potential(1, 1), 4);
        Refusal.due(check, "potential(11, 2)", Nets::busy, x -> x.potential(11, 2), 2);
    }

    private static void badPotential(Check check) {
        for (int f : Refusal.outside(0, 11)) {
            Refusal.due(check, "potential(" + f + ", 7)", Nets::busy, x -> x.potential(f, 7), BAD);
            Refusal.due(check, "potential(1, " + f + ")", Nets::busy, x -> x.potential(1, f), BAD);
        }
    }

    private static void potentialOfOthers(Check check) {
        Refusal.due(check, "potential(0, 7)", Nets::busy, x -> x.potential(0, 7), NO);
        Refusal.due(check, "potential(2, 7)", Nets::busy, x -> x.potential(2, 7), NO);
        Refusal.due(check, "potential(0, 0)", Nets::busy, x -> x.potential(0, 0), NO);
        // Degree 0 with 0 everywhere, and degree 2 without plates, are refused too.
        check.due("potential(0, 1) of a new object", new NetForms().potential(0, 1), NO);
        NetForms x = new NetForms();
        x.form(0, 2);
        check.due("potential(0, 1), degree 2", x.potential(0, 1), NO);
    }

    private static NetForms path(int... numbers) {
        NetForms x = Check.net(6, 0, 1, 1, 2, 2, 3, 3, 4, 4, 5);
        Check.form(x, 0, 1, numbers);
        Check.form(x, 1, 1, 1, 2, 3, 4, 5);
        return x;
    }

    private static void potentialBeyond(Check check) {
        NetForms x = path(MILLION, -MILLION, -MILLION, MILLION, MILLION);
        check.due("potential(0, 1), just within", x.potential(0, 1), NONE);
        check.dueForm("potential(0, 1)", x, 1, 0, 0, MILLION, 0, -MILLION, 0, MILLION);
        int[][] above = {{MILLION, 1, -1, 0, 0}, {-MILLION, -1, 0, 0, 0}, {0, 0, 0, MILLION, 1},
            {200000, 200000, 200000, 200000, 200001}, {-200000, -200000, -200000, -200000, -200001},
            {MILLION, MILLION, MILLION, MILLION, MILLION}, {-MILLION, -MILLION, -MILLION, -MILLION, -MILLION}};
        for (int[] v : above) {
            String name = " of " + java.util.Arrays.toString(v);
            Refusal.due(check, "potential(0, 1)" + name, () -> path(v), y -> y.potential(0, 1), BEYOND);
            Refusal.due(check, "potential(0, 0)" + name, () -> path(v), y -> y.potential(0, 0), BEYOND);
        }
    }

    /** Beyond at point 2 already, and the edge that came last is open. */
    private static NetForms beyondAndForbidden() {
        NetForms x = path(MILLION, 1, 0, 0, 0);
        x.edge(3, 5);
        x.set(0, 5, 1);
        return x;
    }

    private static void forbiddenAheadOfBeyond(Check check) {
        Refusal.due(check, "potential(0, 1), closed", () -> path(MILLION, 1, 0, 0, 0), x -> x.potential(0, 1), BEYOND);
        Refusal.due(check, "potential(0, 1), open", HolesBoundsTest::beyondAndForbidden, x -> x.potential(0, 1), 5);
    }

    private static void duePart(Check check, NetForms x, int part, long... fractions) {
        for (int e = 0; 2 * e < fractions.length; e++) {
            String call = "split(0, " + part + ", " + e + ", ";
            check.due(call + "0)", x.split(0, part, e, 0), fractions[2 * e]);
            check.due(call + "1)", x.split(0, part, e, 1), fractions[2 * e + 1]);
        }
    }

    /** One triangle filled, one open: all three parts are there at once. */
    private static void threeParts(Check check) {
        NetForms x = Check.net(4, 0, 1, 1, 2, 0, 2, 2, 3, 0, 3);
        x.face(0, 1, 2);
        Check.form(x, 0, 1, 24, 0, 0, 0, 0);
        duePart(check, x, 0, 15, 1, -9, 1, 6, 1, -3, 1, 3, 1);
        duePart(check, x, 1, 8, 1, 8, 1, -8, 1, 0, 1, 0, 1);
        duePart(check, x, 2, 1, 1, 1, 1, 2, 1, 3, 1, -3, 1);
    }

    private static void splitWithoutPlates(Check check) {
        NetForms x = Check.net(3, 0, 1, 1, 2, 0, 2);
        Check.form(x, 0, 1, 0, 0, 6);
        duePart(check, x, 0, 2, 1, 2, 1, 4, 1);
        duePart(check, x, 1, 0, 1, 0, 1, 0, 1);
        duePart(check, x, 2, -2, 1, -2, 1, 2, 1);
    }

    private static void splitWithoutRounds(Check check) {
        NetForms x = Check.net(6, 0, 5, 1, 5, 2, 3);
        Check.form(x, 0, 1, 1000, -1000, 17);
        duePart(check, x, 0, 1000, 1, -1000, 1, 17, 1);
        duePart(check, x, 1, 0, 1, 0, 1, 0, 1);
        duePart(check, x, 2, 0, 1, 0, 1, 0, 1);
    }

    private static void splitOfHollow(Check check) {
        NetForms x = Check.net(4, 0, 1, 0, 2, 0, 3, 1, 2, 1, 3, 2, 3);
        x.face(0, 1, 2);
        x.face(0, 1, 3);
        x.face(0, 2, 3);
        Check.form(x, 0, 1, 4, 0, 0, 0, 0, 0);
        duePart(check, x, 1, 2, 1, -1, 1, -1, 1, 1, 1, 1, 1, 0, 1);
        x.face(1, 2, 3);
        duePart(check, x, 0, 2, 1, 1, 1, 1, 1, -1, 1, -1, 1, 0, 1);
        duePart(check, x, 1, 2, 1, -1, 1, -1, 1, 1, 1, 1, 1, 0, 1);
        duePart(check, x, 2, 0, 1, 0, 1, 0, 1, 0, 1, 0, 1, 0, 1);
    }

    /** Of w = v on 01 the slope has 5v/8, the turn v/3, the still part v/24 there. */
    private static void lowestTerms(Check check) {
        NetForms x = Check.net(4, 0, 1, 1, 2, 0, 2, 2, 3, 0, 3);
        x.face(0, 1, 2);
        long[][] due = {{0, 0, 1, 0, 1, 0, 1}, {1, 5, 8, 1, 3, 1, 24}, {2, 5, 4, 2, 3, 1, 12}, {3, 15, 8, 1, 1, 1, 8},
            {8, 5, 1, 8, 3, 1, 3}, {24, 15, 1, 8, 1, 1, 1}, {-6, -15, 4, -2, 1, -1, 4}, {1000, 625, 1, 1000, 3, 125, 3},
            {-999, -4995, 8, -333, 1, -333, 8}};
        for (long[] d : due) {
            Check.form(x, 0, 1, (int) d[0], 0, 0, 0, 0);
            for (int part = 0; part < 3; part++) {
                String call = d[0] + " at 0: split(0, " + part + ", 0, ";
                check.due(call + "0)", x.split(0, part, 0, 0), d[1 + 2 * part]);
                check.due(call + "1)", x.split(0, part, 0, 1), d[2 + 2 * part]);
            }
        }
    }

    private static void belowAboveZero(Check check) {
        NetForms x = Nets.allPlates();
        x.form(0, 1);
        for (int e = 0; e < 12; e++) {
            x.set(0, e, e % 2 == 0 ? 7 * e - 50 : 90 * e);
        }
        for (int e = 0; e < 12; e++) {
            for (int part = 0; part < 3; part++) {
                long below = x.split(0, part, e, 1);
                check.due("split(0, " + part + ", " + e + ", 1) is above 0", below > 0 ? 1 : 0, 1);
            }
        }
    }

    private static NetForms triangle(int a, int b, int c) {
        NetForms x = Check.net(3, 0, 1, 1, 2, 0, 2);
        x.face(0, 1, 2);
        Check.form(x, 0, 1, a, b, c);
        return x;
    }

    private static void badSplit(Check check) {
        for (int what = 0; what < 2; what++) {
            int told = what;
            for (int f : Refusal.outside(0, 11)) {
                Refusal.due(check, "split(" + f + ", 0, 0, " + what + ")", () -> triangle(5, 5, 5),
                    x -> x.split(f, 0, 0, told), 0);
            }
            for (int v : Refusal.outside(0, 2)) {
                Refusal.due(check, "split(0, " + v + ", 0, " + what + ")", () -> triangle(5, 5, 5),
                    x -> x.split(0, v, 0, told), 0);
                Refusal.due(check, "split(0, 0, " + v + ", " + what + ")", () -> triangle(5, 5, 5),
                    x -> x.split(0, 0, v, told), 0);
            }
        }
        for (int what : Refusal.outside(0, 1)) {
            for (int part = 0; part < 3; part++) {
                int asked = part;
                Refusal.due(check, "split(0, " + part + ", 0, " + what + ")", () -> triangle(5, 5, 5),
                    x -> x.split(0, asked, 0, what), 0);
            }
        }
        NetForms x = new NetForms();
        x.form(0, 1);
        check.due("split(0, 0, 0, 1) without edges", x.split(0, 0, 0, 1), 0);
    }

    private static void splitOfOthers(Check check) {
        for (int part = 0; part < 3; part++) {
            for (int what = 0; what < 2; what++) {
                int asked = part;
                int told = what;
                String rest = ", " + part + ", 0, " + what + ")";
                Refusal.due(check, "split(0" + rest, Nets::busy, x -> x.split(0, asked, 0, told), 0);
                Refusal.due(check, "split(2" + rest, Nets::busy, x -> x.split(2, asked, 0, told), 0);
                check.due("split(7" + rest, Nets.busy().split(7, part, 0, what), 0);
            }
        }
    }

    private static void splitBeyond(Check check) {
        check.due("split at 1000", triangle(1000, -1000, 0).split(0, 0, 0, 0), 1000);
        check.due("split at -1000", triangle(-1000, 1000, 0).split(0, 0, 0, 0), -1000);
        check.due("split at 1000 everywhere", triangle(1000, 1000, -1000).split(0, 1, 2, 0), -1000);
        for (int v : new int[] {1001, -1001, MILLION, -MILLION}) {
            for (int part = 0; part < 3; part++) {
                for (int what = 0; what < 2; what++) {
                    int asked = part;
                    int told = what;
                    String call = "split(0, " + part + ", 0, " + what + ") of " + v;
                    Refusal.due(check, call, () -> triangle(v, 0, 0), x -> x.split(0, asked, 0, told), -5);
                }
            }
        }
    }

    private static void splitBeyondElsewhere(Check check) {
        check.due("split at 0 of 1001 at 1", triangle(0, 1001, 0).split(0, 0, 0, 0), -5);
        check.due("split at 0 of -1001 at 2", triangle(0, 0, -1001).split(0, 0, 0, 1), -5);
        NetForms x = Nets.allEdges();
        x.form(0, 1);
        x.set(0, 11, 1001);
        check.due("split at 0 of 1001 at 11", x.split(0, 0, 0, 0), -5);
        x.set(0, 11, 1000);
        check.due("split at 0 of 1000 at 11, below", x.split(0, 1, 0, 1), 1);
        // Another part of the net, and numbers of another form.
        NetForms y = Check.net(4, 0, 1, 2, 3);
        Check.form(y, 0, 1, 3, -1001);
        Check.form(y, 1, 1, 3, 4);
        check.due("split of one part, beyond in another", y.split(0, 0, 0, 0), -5);
        check.due("split of another form", y.split(1, 0, 0, 0), 3);
    }
}
