/** Promises 1 to 5: a new object, barrel, sets, gap, side. */
public final class BarrelTest {
    public static void main(String[] args) {
        constants();
        newObject();
        barrel();
        barrelBringsAllElseBack();
        sets();
        gap();
        side();
        Check.end();
    }

    private static void constants() {
        Check.due("NONE", OrganBarrel.NONE, -1);
        Check.due("BAD", OrganBarrel.BAD, -2);
        Check.due("NO", OrganBarrel.NO, -3);
        Check.due("FULL", OrganBarrel.FULL, -4);
    }

    private static void newObject() {
        OrganBarrel x = new OrganBarrel();
        int[] told = {0, 0, 0, 0, 24, 4, 3, 0, 1, 20, 0};
        for (int what = 0; what < told.length; what++) {
            Check.due("told " + what + " of a new object", x.told(what), told[what]);
        }
        Check.cause("a new object", x, 0, 0, 0, -1);
        int[] tune = {24, 0, 0, 0, -1, -1, -1, -1};
        for (int t = 0; t < 3; t++) {
            for (int what = 0; what < tune.length; what++) {
                Check.due("tune " + t + " " + what + " of a new object", x.tune(t, what), tune[what]);
            }
        }
        int[] all = {0, 0, 0, 0, 0, 12, 24};
        for (int what = 0; what < all.length; what++) {
            Check.due("all " + what + " of a new object", x.all(what), all[what]);
        }
        for (int k = 0; k < 4; k++) {
            Check.due("GAP of a new object", x.gap(k, 0), 1);
        }
    }

    private static void barrel() {
        OrganBarrel x = new OrganBarrel();
        Check.due("barrel 6 1 2", x.barrel(6, 1, 2), 24);
        Check.due("R", x.told(4), 6);
        Check.due("K", x.told(5), 1);
        Check.due("T", x.told(6), 2);
        Check.due("TICKS are R at first", x.tune(1, 0), 6);
        Check.due("barrel 24 6 3", x.barrel(24, 6, 3), 6);
        Check.due("TRACKS", x.all(5), 18);
        Check.due("STATES", x.told(10), 2);
        int[][] bad = {{5, 4, 3}, {25, 4, 3}, {24, 0, 3}, {24, 7, 3}, {24, 4, 1}, {24, 4, 4}, {-1, -1, -1},
            {Integer.MIN_VALUE, 4, 3}, {Integer.MAX_VALUE, 4, 3}};
        for (int[] b : bad) {
            Check.refused("barrel " + b[0] + " " + b[1] + " " + b[2], x, () -> x.barrel(b[0], b[1], b[2]), OrganBarrel.BAD);
        }
    }

    private static void barrelBringsAllElseBack() {
        OrganBarrel x = new OrganBarrel();
        x.sets(0, 2);
        x.sets(2, 7);
        x.side(3);
        x.gap(1, 5);
        x.ticks(0, 9);
        x.note(0, 0, 0, 1);
        x.shift(0, 4);
        x.pins(0);
        x.pins(1);
        x.type('p');
        x.type(200);
        Check.due("barrel 24 4 3", x.barrel(24, 4, 3), 24);
        int[] told = {1, 1, 0, 1, 24, 4, 3, 0, 1, 20, 5};
        for (int what = 0; what < told.length; what++) {
            Check.due("told " + what + " behind barrel", x.told(what), told[what]);
        }
        Check.cause("barrel", x, 4, 0, 0, -1);
        int[] tune = {24, 0, 0, 0, -1, -1, -1, -1};
        for (int what = 0; what < tune.length; what++) {
            Check.due("tune 0 " + what + " behind barrel", x.tune(0, what), tune[what]);
        }
        Check.due("GAP behind barrel", x.gap(1, 0), 1);
        Check.due("back", x.back(), 4);
        Check.due("back before barrel", x.back(), 3);
        Check.due("it is PINNED again", x.tune(0, 3), 1);
        Check.due("WAY is 2 again", x.told(7), 2);
    }

    private static void sets() {
        OrganBarrel x = new OrganBarrel();
        Check.due("sets 0 2", x.sets(0, 2), 0);
        Check.due("sets 0 1", x.sets(0, 1), 2);
        Check.due("sets 1 0", x.sets(1, 0), 1);
        Check.due("sets 1 3", x.sets(1, 3), 0);
        Check.due("sets 2 1", x.sets(2, 1), 20);
        Check.due("sets 2 99", x.sets(2, 99), 1);
        Check.due("WAY", x.told(7), 1);
        Check.due("SIDE", x.told(8), 3);
        Check.due("LIMIT", x.told(9), 99);
        Check.due("back", x.back(), 4);
        Check.due("LIMIT one STATE back", x.told(9), 1);
        int[][] bad = {{-1, 1}, {3, 1}, {0, -1}, {0, 3}, {1, -1}, {1, 4}, {2, 0}, {2, 100}};
        for (int[] b : bad) {
            Check.refused("sets " + b[0] + " " + b[1], x, () -> x.sets(b[0], b[1]), OrganBarrel.BAD);
        }
    }

    private static void gap() {
        OrganBarrel x = new OrganBarrel();
        Check.due("gap 0 6", x.gap(0, 6), 1);
        Check.due("gap 0 0", x.gap(0, 0), 6);
        Check.due("gap 3 2", x.gap(3, 2), 1);
        Check.due("gap 3 2 again", x.gap(3, 2), 2);
        Check.due("STATES", x.told(10), 4);
        Check.due("back", x.back(), 3);
        Check.due("back", x.back(), 2);
        Check.due("gap 3 0 two STATES back", x.gap(3, 0), 1);
        int[][] bad = {{-1, 1}, {4, 1}, {0, -1}, {0, 7}};
        for (int[] b : bad) {
            long before = x.digest();
            Check.refused("gap " + b[0] + " " + b[1], x, () -> x.gap(b[0], b[1]), OrganBarrel.BAD);
            Check.that("a refusal is in the digest", before != x.digest());
        }
        x.barrel(24, 6, 3);
        Check.due("gap 5 6 of six KEYS", x.gap(5, 6), 1);
    }

    private static void side() {
        OrganBarrel x = new OrganBarrel();
        Check.due("side 3", x.side(3), 1);
        Check.due("side 0", x.side(0), 3);
        Check.due("sets 1 2", x.sets(1, 2), 0);
        Check.due("side 2", x.side(2), 2);
        Check.due("STATES", x.told(10), 4);
        Check.refused("side -1", x, () -> x.side(-1), OrganBarrel.BAD);
        Check.refused("side 4", x, () -> x.side(4), OrganBarrel.BAD);
    }
}
