import java.util.ArrayList;
import java.util.Arrays;
import java.util.List;
import java.util.TreeMap;

/** The document once more, by the plainest ways: whole matrices of slopes, fractions without bounds, lists and maps. */
final class Model {
    private static final int BAD = -2, NO = -3, FULL = -4, BEYOND = -5;

    private int points = 1;
    private final List<List<Integer>> edges = new ArrayList<>();
    private final List<List<Integer>> plates = new ArrayList<>();
    private final int[] degrees = new int[12];
    private final List<TreeMap<Integer, Integer>> forms = new ArrayList<>();
    private final TreeMap<Integer, Integer> walls = new TreeMap<>();
    private long[] heights = new long[6];
    private long[] flows = new long[12];
    private int steps;

    Model() {
        for (int f = 0; f < 12; f++) {
            forms.add(new TreeMap<>());
        }
    }

    long call(String name, int[] a) {
        switch (name) {
            case "net": return net(a[0]);
            case "edge": return edge(a[0], a[1]);
            case "face": return face(a[0], a[1], a[2]);
            case "corner": return corner(a[0], a[1], a[2]);
            case "form": return form(a[0], a[1]);
            case "set": return set(a[0], a[1], a[2]);
            case "get": return get(a[0], a[1]);
            case "slope": return isForm(a[0], a[1]) ? degrees[a[0]] == 2 ? NO : give(a[1], degrees[a[0]] + 1, slope(a[0])) : BAD;
            case "rim": return isForm(a[0], a[1]) ? degrees[a[0]] == 0 ? NO : give(a[1], degrees[a[0]] - 1, rim(a[0])) : BAD;
            case "cup": return cup(a[0], a[1], a[2]);
            case "mix": return mix(a[0], a[1], a[2], a[3], a[4]);
            case "about": return about(a[0], a[1]);
            case "holes": return holes(a[0]);
            case "potential": return potential(a[0], a[1]);
            case "split": return split(a[0], a[1], a[2], a[3]);
            case "wall": return wall(a[0], a[1]);
            case "open": return open(a[0]);
            case "field": return field();
            case "fieldAt": return fieldAt(a[0], a[1]);
            case "wave": return wave(a[0]);
            case "raise": return raise(a[0]);
            case "height": return isCell(0, a[0]) ? heights[a[0]] : 0;
            case "flow": return isCell(1, a[0]) ? flows[a[0]] : 0;
            case "sum": return Arrays.stream(heights).sum();
            case "count": return count(a[0]);
            default: return digest();
        }
    }

    private int size(int degree) {
        return degree == 0 ? points : degree == 1 ? edges.size() : plates.size();
    }

    private boolean isCell(int degree, int k) {
        return 0 <= k && k < size(degree);
    }

    private boolean isForm(int... all) {
        return Arrays.stream(all).allMatch(f -> 0 <= f && f <= 11);
    }

    private int at(int f, int k) {
        return forms.get(f).getOrDefault(k, 0);
    }

    private int net(int n) {
        if (n < 1 || n > 6) {
            return BAD;
        }
        points = n;
        edges.clear();
        plates.clear();
        Arrays.fill(degrees, 0);
        forms.forEach(TreeMap::clear);
        walls.clear();
        heights = new long[6];
        flows = new long[12];
        steps = 0;
        return 1;
    }

    private int edge(int a, int b) {
        if (a < 0 || b <= a || b >= points) {
            return BAD;
        }
        return add(edges, List.of(a, b), 12);
    }

    private int face(int a, int b, int c) {
        if (a < 0 || b <= a || c <= b || c >= points) {
            return BAD;
        }
        if (!edges.containsAll(List.of(List.of(a, b), List.of(b, c), List.of(a, c)))) {
            return NO;
        }
        return add(plates, List.of(a, b, c), 10);
    }

    private static int add(List<List<Integer>> cells, List<Integer> cell, int most) {
        if (cells.contains(cell)) {
            return NO;
        }
        if (cells.size() == most) {
            return FULL;
        }
        cells.add(cell);
        return cells.size() - 1;
    }

    private int corner(int degree, int k, int i) {
        if (degree < 1 || degree > 2 || !isCell(degree, k)) {
            return BAD;
        }
        return i < 0 || i > degree ? -1 : (degree == 1 ? edges : plates).get(k).get(i);
    }

    private int form(int f, int degree) {
        if (!isForm(f) || degree < 0 || degree > 2) {
            return BAD;
        }
        degrees[f] = degree;
        forms.get(f).clear();
        return 1;
    }

    private int set(int f, int k, int v) {
        if (!isForm(f) || !isCell(degrees[f], k) || v > 1000000 || v < -1000000) {
            return -2000000;
        }
        int was = at(f, k);
        forms.get(f).put(k, v);
        return was;
    }

    private int get(int f, int k) {
        return !isForm(f) || !isCell(degrees[f], k) ? -2000000 : at(f, k);
    }

    private long[] slope(int f) {
        List<Long> out = new ArrayList<>();
        if (degrees[f] == 0) {
            edges.forEach(e -> out.add((long) at(f, e.get(1)) - at(f, e.get(0))));
        } else {
            plates.forEach(p -> out.add((long) on(f, p, 0, 1) + on(f, p, 1, 2) - on(f, p, 0, 2)));
        }
        return out.stream().mapToLong(v -> v).toArray();
    }

    private int on(int f, List<Integer> plate, int i, int j) {
        return at(f, edges.indexOf(List.of(plate.get(i), plate.get(j))));
    }

    private long[] rim(int f) {
        long[] out = new long[size(degrees[f] - 1)];
        if (degrees[f] == 1) {
            for (int e = 0; e < edges.size(); e++) {
                out[edges.get(e).get(1)] += at(f, e);
                out[edges.get(e).get(0)] -= at(f, e);
            }
            return out;
        }
        for (int p = 0; p < plates.size(); p++) {
            for (int i = 0; i < 3; i++) {
                out[sideOf(p, i)] += i == 1 ? -at(f, p) : at(f, p);
            }
        }
        return out;
    }

    /** The edge of a plate that is across from its i-th point. */
    private int sideOf(int plate, int i) {
        List<Integer> rest = new ArrayList<>(plates.get(plate));
        rest.remove(i);
        return edges.indexOf(rest);
    }

    private int give(int f, int degree, long[] numbers) {
        if (Arrays.stream(numbers).anyMatch(v -> v > 1000000 || v < -1000000)) {
            return BEYOND;
        }
        form(f, degree);
        for (int k = 0; k < numbers.length; k++) {
            forms.get(f).put(k, (int) numbers[k]);
        }
        return degree;
    }

    private List<Integer> cornersOf(int degree, int k) {
        return degree == 0 ? List.of(k) : degree == 1 ? edges.get(k) : plates.get(k);
    }

    private int cellOf(List<Integer> corners) {
        return corners.size() == 1 ? corners.get(0) : corners.size() == 2 ? edges.indexOf(corners) : plates.indexOf(corners);
    }

    private int cup(int f, int g, int to) {
        if (!isForm(f, g, to)) {
            return BAD;
        }
        int degree = degrees[f] + degrees[g];
        if (degree > 2) {
            return NO;
        }
        long[] out = new long[size(degree)];
        for (int k = 0; k < out.length; k++) {
            List<Integer> corners = cornersOf(degree, k);
            int front = cellOf(corners.subList(0, degrees[f] + 1));
            int back = cellOf(corners.subList(degrees[f], degree + 1));
            out[k] = (long) at(f, front) * at(g, back);
        }
        return give(to, degree, out);
    }

    private int mix(int f, int p, int g, int q, int to) {
        if (!isForm(f, g, to) || p < -1000 || p > 1000 || q < -1000 || q > 1000) {
            return BAD;
        }
        if (degrees[f] != degrees[g]) {
            return NO;
        }
        long[] out = new long[size(degrees[f])];
        for (int k = 0; k < out.length; k++) {
            out[k] = (long) p * at(f, k) + (long) q * at(g, k);
        }
        return give(to, degrees[f], out);
    }

    private int about(int f, int what) {
        if (!isForm(f) || what < 0 || what > 3) {
            return BAD;
        }
        if (what == 0) {
            return degrees[f];
        }
        long[] looked = what == 1 ? forms.get(f).values().stream().mapToLong(v -> v).toArray()
            : what == 2 ? degrees[f] == 2 ? new long[0] : slope(f) : degrees[f] == 0 ? new long[0] : rim(f);
        return Arrays.stream(looked).allMatch(v -> v == 0) ? 1 : 0;
    }

    /** The slopes of degree 0 as a table of edges by points, with as many columns more as asked. */
    private Fraction[][] slopesOfPoints(int more) {
        Fraction[][] table = new Fraction[edges.size()][points + more];
        for (int e = 0; e < table.length; e++) {
            Arrays.fill(table[e], Fraction.ZERO);
            table[e][edges.get(e).get(0)] = Fraction.of(-1);
            table[e][edges.get(e).get(1)] = Fraction.of(1);
        }
        return table;
    }

    private Fraction[][] slopesOfEdges() {
        Fraction[][] table = new Fraction[plates.size()][edges.size()];
        for (int p = 0; p < table.length; p++) {
            Arrays.fill(table[p], Fraction.ZERO);
            for (int i = 0; i < 3; i++) {
                table[p][sideOf(p, i)] = Fraction.of(i == 1 ? -1 : 1);
            }
        }
        return table;
    }

    private int holes(int degree) {
        if (degree < 0 || degree > 2) {
            return BAD;
        }
        int low = new Matrix(slopesOfPoints(0), points).rank();
        int high = new Matrix(slopesOfEdges(), edges.size()).rank();
        return degree == 0 ? points - low : degree == 1 ? edges.size() - low - high : plates.size() - high;
    }

    private int leastOf(int point, int edgesLooked) {
        boolean[] reached = new boolean[6];
        reached[point] = true;
        for (int round = 0; round < 6; round++) {
            for (List<Integer> e : edges.subList(0, edgesLooked)) {
                boolean either = reached[e.get(0)] || reached[e.get(1)];
                reached[e.get(0)] = either;
                reached[e.get(1)] = either;
            }
        }
        for (int p = 0; p < 6; p++) {
            if (reached[p]) {
                return p;
            }
        }
        return -1;
    }

    /** The slope equations of the first edges alone, with each least point at 0. */
    private Matrix potentialOf(int f, int edgesLooked) {
        List<Fraction[]> table = new ArrayList<>();
        Fraction[][] slopes = slopesOfPoints(1);
        for (int e = 0; e < edgesLooked; e++) {
            slopes[e][points] = Fraction.of(at(f, e));
            table.add(slopes[e]);
        }
        for (int p = 0; p < points; p++) {
            if (leastOf(p, edgesLooked) == p) {
                Fraction[] row = new Fraction[points + 1];
                Arrays.fill(row, Fraction.ZERO);
                row[p] = Fraction.of(1);
                table.add(row);
            }
        }
        return new Matrix(table.toArray(new Fraction[0][]), points);
    }

    private int potential(int f, int g) {
        if (!isForm(f, g)) {
            return BAD;
        }
        if (degrees[f] != 1) {
            return NO;
        }
        for (int e = 0; e < edges.size(); e++) {
            if (!potentialOf(f, e + 1).hasAnswer()) {
                return e;
            }
        }
        Matrix answer = potentialOf(f, edges.size());
        long[] out = new long[points];
        for (int p = 0; p < points; p++) {
            out[p] = answer.answer(p).above().longValueExact();
        }
        return give(g, 0, out) == BEYOND ? BEYOND : -1;
    }

    /** All three parts at once, from the words of the document: s and r and t together are w, t has no slope and rim. */
    private long split(int f, int part, int edge, int what) {
        if (!isForm(f) || part < 0 || part > 2 || !isCell(1, edge) || what < 0 || what > 1 || degrees[f] != 1) {
            return 0;
        }
        if (forms.get(f).values().stream().anyMatch(v -> v > 1000 || v < -1000)) {
            return BEYOND;
        }
        int m = edges.size();
        int q = plates.size();
        int unknowns = points + q + m;
        Fraction[][] low = slopesOfPoints(0);
        Fraction[][] high = slopesOfEdges();
        Fraction[][] table = new Fraction[m + points + q][unknowns + 1];
        for (Fraction[] row : table) {
            Arrays.fill(row, Fraction.ZERO);
        }
        for (int e = 0; e < m; e++) {
            System.arraycopy(low[e], 0, table[e], 0, points);
            for (int p = 0; p < q; p++) {
                table[e][points + p] = high[p][e];
                table[m + points + p][points + q + e] = high[p][e];
            }
            table[e][points + q + e] = Fraction.of(1);
            table[e][unknowns] = Fraction.of(at(f, e));
            for (int p = 0; p < points; p++) {
                table[m + p][points + q + e] = low[e][p];
            }
        }
        Matrix answer = new Matrix(table, unknowns);
        Fraction s = answer.answer(edges.get(edge).get(1)).minus(answer.answer(edges.get(edge).get(0)));
        Fraction t = answer.answer(points + q + edge);
        Fraction told = part == 0 ? s : part == 2 ? t : Fraction.of(at(f, edge)).minus(s).minus(t);
        return (what == 0 ? told.above() : told.below()).longValueExact();
    }

    private int wall(int point, int v) {
        if (!isCell(0, point) || v < -1000 || v > 1000) {
            return BAD;
        }
        walls.put(point, v);
        return 1;
    }

    private int open(int point) {
        if (!isCell(0, point)) {
            return -2000000;
        }
        Integer was = walls.remove(point);
        return was == null ? -1000000 : was;
    }

    private int field() {
        for (int p = 0; p < points; p++) {
            int least = leastOf(p, edges.size());
            if (least == p && walls.keySet().stream().noneMatch(w -> leastOf(w, edges.size()) == least)) {
                return p;
            }
        }
        return -1;
    }

    private long fieldAt(int point, int what) {
        if (!isCell(0, point) || what < 0 || what > 1 || field() != -1) {
            return 0;
        }
        Fraction[][] table = new Fraction[points][points + 1];
        for (int p = 0; p < points; p++) {
            Arrays.fill(table[p], Fraction.ZERO);
            if (walls.containsKey(p)) {
                table[p][p] = Fraction.of(1);
                table[p][points] = Fraction.of(walls.get(p));
                continue;
            }
            for (List<Integer> e : edges) {
                if (e.contains(p)) {
                    int other = e.get(0) + e.get(1) - p;
                    table[p][p] = table[p][p].plus(Fraction.of(-1));
                    table[p][other] = table[p][other].plus(Fraction.of(1));
                }
            }
        }
        Fraction told = new Matrix(table, points).answer(point);
        return (what == 0 ? told.above() : told.below()).longValueExact();
    }

    private int wave(int n) {
        if (n == 0 || n < -100 || n > 100) {
            return BAD;
        }
        for (int i = 0; i < Math.abs(n); i++) {
            if (n > 0) {
                changeFlows(1);
                changeHeights(1);
            } else {
                changeHeights(-1);
                changeFlows(-1);
            }
        }
        steps += n;
        return steps;
    }

    private void changeFlows(int sign) {
        for (int e = 0; e < edges.size(); e++) {
            flows[e] += sign * (heights[edges.get(e).get(0)] - heights[edges.get(e).get(1)]);
        }
    }

    private void changeHeights(int sign) {
        for (int p = 0; p < points; p++) {
            for (int e = 0; e < edges.size(); e++) {
                heights[p] += edges.get(e).get(1) == p ? sign * flows[e] : 0;
                heights[p] -= edges.get(e).get(0) == p ? sign * flows[e] : 0;
            }
        }
    }

    private int raise(int f) {
        if (!isForm(f)) {
            return BAD;
        }
        if (degrees[f] == 2) {
            return NO;
        }
        heights = new long[6];
        flows = new long[12];
        forms.get(f).forEach((k, v) -> (degrees[f] == 0 ? heights : flows)[k] = v);
        steps = 0;
        return 1;
    }

    private int count(int what) {
        if (what < 0 || what > 4) {
            return BAD;
        }
        return what < 3 ? size(what) : what == 3 ? walls.size() : holes(0);
    }

    private long digest() {
        List<Long> all = new ArrayList<>();
        for (int what = 0; what < 5; what++) {
            all.add((long) count(what));
        }
        edges.forEach(e -> e.forEach(p -> all.add((long) p)));
        plates.forEach(e -> e.forEach(p -> all.add((long) p)));
        for (int f = 0; f < 12; f++) {
            all.add((long) degrees[f]);
            for (int k = 0; k < size(degrees[f]); k++) {
                all.add((long) at(f, k));
            }
        }
        walls.forEach((p, v) -> all.addAll(List.of((long) p, (long) v)));
        Arrays.stream(heights).limit(points).forEach(all::add);
        Arrays.stream(flows).limit(edges.size()).forEach(all::add);
        return all.stream().reduce(109L, (h, v) -> 31 * h + v);
    }
}
