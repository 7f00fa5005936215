/** Counts the answers that are not as due, tells each of them, and ends a test with exit code 1 if there was one. */
final class Check {
    private int wrong;
    private int asked;

    void due(String call, long got, long want) {
        asked++;
        if (got != want) {
            wrong++;
            System.out.println(call + " answered " + got + ", due is " + want);
        }
    }

    void unchanged(String call, long got, long want, NetForms x, long digestBefore) {
        due(call, got, want);
        due(call + " and then digest()", x.digest(), digestBefore);
    }

    boolean isKept() {
        return wrong == 0 && asked > 0;
    }

    void end() {
        if (!isKept()) {
            System.out.println(wrong + " of " + asked + " answers are not as due");
            System.exit(1);
        }
    }

    /** A net of n points with the edges told as pairs. */
    static NetForms net(int n, int... pairs) {
        NetForms x = new NetForms();
        x.net(n);
        for (int i = 0; i + 1 < pairs.length; i += 2) {
            x.edge(pairs[i], pairs[i + 1]);
        }
        return x;
    }

    static void form(NetForms x, int f, int degree, int... numbers) {
        x.form(f, degree);
        for (int k = 0; k < numbers.length; k++) {
            x.set(f, k, numbers[k]);
        }
    }

    void dueForm(String call, NetForms x, int f, int degree, int... numbers) {
        due(call + ": degree", x.about(f, 0), degree);
        for (int k = 0; k < numbers.length; k++) {
            due(call + ": at " + k, x.get(f, k), numbers[k]);
        }
        due(call + ": behind the last", x.get(f, numbers.length), -2000000);
    }
}
