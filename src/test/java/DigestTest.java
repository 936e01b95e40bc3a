/** Promise 31: digest. */
public final class DigestTest {
    public static void main(String[] args) {
        OrganBarrel x = new OrganBarrel();
        compare("a new object", x, 1, 1, 1, 1);
        Check.due("digest of a new object", x.digest(), byHand());
        x.barrel(18, 3, 2);
        x.gap(1, 4);
        x.gap(2, 0);
        x.ticks(0, 7);
        x.note(0, 2, 0, 2);
        x.note(0, 1, 3, 2);
        x.note(1, 1, 0, 3);
        x.sets(0, 1);
        compare("with NOTES", x, 1, 4, 0);
        x.settles();
        x.plays(0, 30);
        x.pins(5);
        x.pins(1);
        compare("with PINS", x, 1, 4, 0);
        x.ticks(0, 5);
        x.pins(0);
        Check.due("reads", Check.reads(x, "e1;t0 9"), -17);
        compare("with CAUSE and THE TEXT", x, 1, 4, 0);
        long before = x.digest();
        Check.due("a question changes nothing", x.digest(), before);
        x.back();
        compare("one STATE back", x, 1, 4, 0);
        Check.end();
    }

    private static long byHand() {
        long h = 2243;
        int[] values = {0, 0, 0, 0, 24, 4, 3, 0, 1, 20, 0, 0, 0, 0, -1, 1, 1, 1, 1,
            24, 0, 0, 0, -1, -1, -1, -1, 24, 0, 0, 0, -1, -1, -1, -1, 24, 0, 0, 0, -1, -1, -1, -1,
            0, 0, 0, 0, 0, 12, 24};
        for (int v : values) {
            h = 31 * h + v;
        }
        return h;
    }

    private static void compare(String when, OrganBarrel x, int... gaps) {
        long h = 2243;
        for (int what = 0; what <= 10; what++) {
            h = 31 * h + x.told(what);
        }
        for (int what = 0; what <= 3; what++) {
            h = 31 * h + x.why(what);
        }
        for (int g : gaps) {
            h = 31 * h + g;
        }
        for (int t = 0; t < x.told(6); t++) {
            for (int what = 0; what <= 7; what++) {
                h = 31 * h + x.tune(t, what);
            }
            for (int i = 0; i < x.tune(t, 1); i++) {
                for (int what = 0; what <= 4; what++) {
                    h = 31 * h + x.noteOf(t, i, what);
                }
            }
        }
        for (int what = 0; what <= 6; what++) {
            h = 31 * h + x.all(what);
        }
        for (int i = 0; i < x.all(2); i++) {
            for (int what = 0; what <= 5; what++) {
                h = 31 * h + x.bridge(i, what);
            }
        }
        Check.due("digest " + when, x.digest(), h);
    }
}
