import java.util.Random;

/** All promises: long runs of calls, many of them with wrong numbers, whose answers and digests the model tells too. */
public final class ModelTest {
    private static final String[] NAMES = {"net", "edge", "face", "corner", "form", "set", "get", "slope", "rim", "cup",
        "mix", "about", "holes", "potential", "split", "wall", "open", "field", "fieldAt", "wave", "raise", "height",
        "flow", "sum", "count", "digest"};
    /** What each call takes: p point, k a number of a cell, f form, d degree, v any number, s small, w wall, x 0 .. 4, n net. */
    private static final String[] TAKES = {"n", "pp", "ppp", "dkx", "fd", "fkv", "fk", "ff", "ff", "fff",
        "fsfsf", "fx", "d", "ff", "fdkb", "pw", "p", "", "pb", "t", "f", "p", "k", "", "x", ""};
    /** How often each is called. */
    private static final int[] OFTEN = {1, 24, 14, 4, 10, 30, 8, 12, 12, 12, 12, 10, 6, 14, 20, 8, 3, 4, 12, 8, 6, 4, 4, 2, 4, 1};
    private static final int[] WRONG = {-1, 6, 7, 12, 13, 101, -101, 1001, -1001, 1000001, -1000001,
        Integer.MAX_VALUE, Integer.MIN_VALUE, Integer.MIN_VALUE + 1};
    private static final Check check = new Check();

    public static void main(String[] args) {
        int runs = args.length > 0 ? Integer.parseInt(args[0]) : 60;
        long start = args.length > 1 ? Long.parseLong(args[1]) : 0;
        for (long seed = start; seed < start + runs; seed++) {
            run(seed);
        }
        fullNet(new int[] {0, 1, 0, 2, 0, 3, 0, 4, 1, 2, 1, 3, 1, 4, 2, 3, 2, 4, 3, 4, 0, 5, 1, 5});
        fullNet(new int[] {3, 5, 2, 4, 0, 2, 1, 4, 0, 3, 1, 5, 0, 4, 2, 5, 1, 2, 3, 4, 0, 5, 1, 3});
        check.end();
    }

    /** All points and edges and as many plates as there can be, and the greatest numbers that a split takes. */
    private static void fullNet(int[] pairs) {
        Random random = new Random(pairs[1]);
        for (int i = 0; i < 12; i++) {
            NetForms x = new NetForms();
            Model model = new Model();
            ask(i, x, model, "net", new int[] {6});
            for (int e = 0; e < 24; e += 2) {
                ask(i, x, model, "edge", new int[] {pairs[e], pairs[e + 1]});
            }
            for (int abc = 0; abc < 216; abc++) {
                int[] plate = {abc / 36, abc / 6 % 6, abc % 6};
                if (plate[0] < plate[1] && plate[1] < plate[2] && (i < 2 || random.nextInt(3) > 0)) {
                    ask(i, x, model, "face", plate);
                }
            }
            fill(i, x, model, random);
            askAll(i, x, model);
        }
    }

    private static void fill(long seed, NetForms x, Model model, Random random) {
        for (int degree = 0; degree < 3; degree++) {
            ask(seed, x, model, "form", new int[] {degree, degree});
            for (int k = 0; k < 12; k++) {
                int size = seed % 2 == 0 ? 1000 : random.nextInt(1001);
                ask(seed, x, model, "set", new int[] {degree, k, random.nextBoolean() ? size : -size});
            }
        }
        for (int p = 0; p < 1 + seed % 5; p++) {
            ask(seed, x, model, "wall", new int[] {random.nextInt(6), random.nextInt(2001) - 1000});
        }
    }

    private static void askAll(long seed, NetForms x, Model model) {
        for (int what = 0; what < 2; what++) {
            for (int e = 0; e < 12; e++) {
                for (int part = 0; part < 3; part++) {
                    ask(seed, x, model, "split", new int[] {1, part, e, what});
                }
            }
            for (int p = 0; p < 6; p++) {
                ask(seed, x, model, "fieldAt", new int[] {p, what});
            }
        }
        for (int degree = 0; degree < 3; degree++) {
            ask(seed, x, model, "holes", new int[] {degree});
            for (int what = 0; what < 4; what++) {
                ask(seed, x, model, "about", new int[] {degree, what});
            }
            ask(seed, x, model, "slope", new int[] {degree, 4 + degree});
            ask(seed, x, model, "rim", new int[] {degree, 7 + degree});
            ask(seed, x, model, "mix", new int[] {degree, 3, degree, -7, 11});
            ask(seed, x, model, "cup", new int[] {degree, 0, 3});
            ask(seed, x, model, "cup", new int[] {degree, 1, 3});
            ask(seed, x, model, "raise", new int[] {degree});
            ask(seed, x, model, "wave", new int[] {100});
        }
        ask(seed, x, model, "potential", new int[] {1, 10});
        ask(seed, x, model, "potential", new int[] {4, 10});
    }

    private static void run(long seed) {
        Random random = new Random(seed);
        NetForms x = new NetForms();
        Model model = new Model();
        int size = random.nextInt(4) == 0 ? 1 + random.nextInt(6) : 6;
        ask(seed, x, model, "net", new int[] {size});
        for (int i = 0; i < 255; i++) {
            int chosen = choose(random);
            String takes = TAKES[chosen];
            int[] numbers = new int[takes.length()];
            boolean isWild = random.nextInt(12) == 0;
            for (int j = 0; j < numbers.length; j++) {
                numbers[j] = isWild && random.nextInt(3) == 0 ? WRONG[random.nextInt(WRONG.length)]
                    : number(random, takes.charAt(j), size);
            }
            if (NAMES[chosen].equals("edge") || NAMES[chosen].equals("face")) {
                java.util.Arrays.sort(numbers);
            }
            if (NAMES[chosen].equals("net") && random.nextInt(3) > 0) {
                continue;
            }
            ask(seed, x, model, NAMES[chosen], numbers);
        }
    }

    private static int choose(Random random) {
        int all = 0;
        for (int often : OFTEN) {
            all += often;
        }
        int left = random.nextInt(all);
        int chosen = 0;
        while (left >= OFTEN[chosen]) {
            left -= OFTEN[chosen++];
        }
        return chosen;
    }

    private static int number(Random random, char kind, int size) {
        switch (kind) {
            case 'p': return random.nextInt(size);
            case 'k': return random.nextInt(random.nextBoolean() ? 4 : 12);
            case 'f': return random.nextInt(random.nextInt(8) == 0 ? 12 : 4);
            case 'd': return random.nextInt(3);
            case 'b': return random.nextInt(2);
            case 's': return random.nextInt(7) - 3;
            case 'w': return random.nextInt(2001) - 1000;
            case 'x': return random.nextInt(5);
            case 'n': return 1 + random.nextInt(6);
            case 't': return random.nextInt(201) - 100;
            default: return value(random);
        }
    }

    private static int value(Random random) {
        int bound = random.nextInt(12) == 0 ? 1000000 : random.nextInt(6) == 0 ? 1000 : 5;
        return random.nextInt(2 * bound + 1) - bound;
    }

    private static void ask(long seed, NetForms x, Model model, String name, int[] numbers) {
        String call = "seed " + seed + ": " + name + java.util.Arrays.toString(numbers);
        check.due(call, call(x, name, numbers), model.call(name, numbers));
        check.due(call + " and then digest()", x.digest(), model.call("digest", numbers));
    }

    private static long call(NetForms x, String name, int[] a) {
        switch (name) {
            case "net": return x.net(a[0]);
            case "edge": return x.edge(a[0], a[1]);
            case "face": return x.face(a[0], a[1], a[2]);
            case "corner": return x.corner(a[0], a[1], a[2]);
            case "form": return x.form(a[0], a[1]);
            case "set": return x.set(a[0], a[1], a[2]);
            case "get": return x.get(a[0], a[1]);
            case "slope": return x.slope(a[0], a[1]);
            case "rim": return x.rim(a[0], a[1]);
            case "cup": return x.cup(a[0], a[1], a[2]);
            case "mix": return x.mix(a[0], a[1], a[2], a[3], a[4]);
            case "about": return x.about(a[0], a[1]);
            case "holes": return x.holes(a[0]);
            case "potential": return x.potential(a[0], a[1]);
            case "split": return x.split(a[0], a[1], a[2], a[3]);
            case "wall": return x.wall(a[0], a[1]);
            case "open": return x.open(a[0]);
            case "field": return x.field();
            case "fieldAt": return x.fieldAt(a[0], a[1]);
            case "wave": return x.wave(a[0]);
            case "raise": return x.raise(a[0]);
            case "height": return x.height(a[0]);
            case "flow": return x.flow(a[0]);
            case "sum": return x.sum();
            case "count": return x.count(a[0]);
            default: return x.digest();
        }
    }
}
