import java.util.ArrayList;
import java.util.List;
import java.util.function.Supplier;

/** A refused call leaves no trace: a twin that was never asked stands beside, and both are then asked for all they hold. */
final class Refusal {
    interface Call {
        long on(NetForms x);
    }

    /** One less and one more than what is there, and the ends of all numbers. */
    static int[] outside(int least, int greatest) {
        return new int[] {least - 1, greatest + 1, Integer.MIN_VALUE, Integer.MAX_VALUE};
    }

    private Refusal() {
    }

    static void due(Check check, String name, Supplier<NetForms> net, Call call, long want) {
        NetForms asked = net.get();
        check.due(name, call.on(asked), want);
        List<Long> got = traces(asked);
        List<Long> due = traces(net.get());
        for (int i = 0; i < due.size(); i++) {
            check.due(name + ", and then trace " + i, got.get(i), due.get(i));
        }
    }

    /** The digest does not tell the steps, nor what would show only behind later edges and plates. */
    private static List<Long> traces(NetForms x) {
        List<Long> all = new ArrayList<>();
        all.add(x.digest());
        all.add((long) x.wave(1));
        all.add(x.digest());
        for (int a = 0; a < x.count(0); a++) {
            for (int b = a + 1; b < x.count(0); b++) {
                all.add((long) x.edge(a, b));
                for (int c = b + 1; c < x.count(0); c++) {
                    all.add((long) x.edge(a, c));
                    all.add((long) x.edge(b, c));
                    all.add((long) x.face(a, b, c));
                }
            }
        }
        all.add(x.digest());
        for (int p = 0; p < x.count(0); p++) {
            all.add((long) x.open(p));
        }
        for (int f = 0; f < 12; f++) {
            all.add((long) x.raise(f));
            all.add((long) x.wave(1));
            all.add(x.digest());
        }
        return all;
    }
}
