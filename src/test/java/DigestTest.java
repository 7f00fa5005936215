/** Promise 27: digest. */
public final class DigestTest {
    private static final Check check = new Check();

    public static void main(String[] args) {
        newObject();
        everything();
        check.end();
    }

    private static long fold(long start, long... values) {
        long h = start;
        for (long v : values) {
            h = 31 * h + v;
        }
        return h;
    }

    private static void newObject() {
        long h = fold(109, 1, 0, 0, 0, 1);
        for (int f = 0; f < 12; f++) {
            h = fold(h, 0, 0);
        }
        check.due("new: digest()", new NetForms().digest(), fold(h, 0));
    }

    private static void everything() {
        NetForms x = Check.net(5, 1, 2, 0, 2, 0, 1, 3, 4);
        x.face(0, 1, 2);
        Check.form(x, 0, 1, 40, -50, 60, 70);
        Check.form(x, 1, 2, -80);
        Check.form(x, 11, 0, 1, 2, 3, 4, 5);
        x.wall(4, -9);
        x.wall(1, 6);
        x.wall(3, 0);
        x.open(3);
        x.raise(11);
        x.wave(1);
        long h = fold(109, 5, 4, 1, 2, 2);
        h = fold(h, 1, 2, 0, 2, 0, 1, 3, 4);
        h = fold(h, 0, 1, 2);
        h = fold(h, 1, 40, -50, 60, 70);
        h = fold(h, 2, -80);
        for (int f = 2; f < 11; f++) {
            h = fold(h, 0, 0, 0, 0, 0, 0);
        }
        h = fold(h, 0, 1, 2, 3, 4, 5);
        h = fold(h, 1, 6, 4, -9);
        h = fold(h, 4, 2, 0, 5, 4);
        h = fold(h, -1, -2, -1, -1);
        check.due("digest()", x.digest(), h);
        check.due("digest() again", x.digest(), h);
    }
}
