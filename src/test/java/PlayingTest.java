/** Promises 21 to 25: plays, mends, heard, tells, wrong. */
public final class PlayingTest {
    public static void main(String[] args) {
        plays();
        mends();
        heard();
        tells();
        wrong();
        wrongByWear();
        Check.end();
    }

    /** TUNES 0 and 1 share a bridge at 0 .. 3; TUNE 0 has a PIN of KEY 2 at 10 .. 15 besides. */
    private static OrganBarrel two() {
        OrganBarrel x = new OrganBarrel();
        x.note(0, 0, 0, 4);
        x.note(0, 2, 10, 6);
        x.note(1, 0, 0, 4);
        x.settles();
        Check.due("BRIDGES", x.all(2), 2);
        return x;
    }

    private static void plays() {
        OrganBarrel x = two();
        Check.due("plays 1 10", x.plays(1, 10), 0);
        Check.due("plays 0 9", x.plays(0, 9), 0);
        Check.due("WEAR together", x.bridge(0, 4), 19);
        Check.due("plays 0 1: the shared one is WORN", x.plays(0, 1), 1);
        Check.due("plays 0 50", x.plays(0, 50), 2);
        Check.due("plays 1 1: only BRIDGES with its PINS", x.plays(1, 1), 1);
        Check.due("back", x.back(), 4);
        Check.due("WEAR is back", x.pin(1, 0, 3), 10);
        Check.refused("plays 2 1, not PINNED", x, () -> x.plays(2, 1), OrganBarrel.NO);
        int[][] bad = {{-1, 1}, {3, 1}, {0, 0}, {0, 51}, {2, 0}};
        for (int[] b : bad) {
            Check.refused("plays " + b[0] + " " + b[1], x, () -> x.plays(b[0], b[1]), OrganBarrel.BAD);
        }
    }

    private static void mends() {
        OrganBarrel x = two();
        x.plays(0, 7);
        x.plays(1, 8);
        Check.due("mends 0", x.mends(0), 15);
        Check.due("WEAR of its PINS", x.pin(0, 0, 3) + x.pin(1, 0, 3), 0);
        Check.due("WEAR of another", x.pin(0, 1, 3), 7);
        Check.due("mends 0 again", x.mends(0), 0);
        Check.due("back", x.back(), 4);
        Check.due("back", x.back(), 3);
        Check.due("WEAR is back", x.bridge(0, 4), 15);
        Check.refused("mends 2, not so many", x, () -> x.mends(2), OrganBarrel.NO);
        Check.refused("mends -1", x, () -> x.mends(-1), OrganBarrel.BAD);
        Check.refused("mends max", x, () -> x.mends(Integer.MAX_VALUE), OrganBarrel.NO);
    }

    private static void heard() {
        OrganBarrel x = new OrganBarrel();
        x.note(0, 0, 0, 4);
        x.note(0, 3, 2, 4);
        x.shift(0, 22);
        x.pins(0);
        int[] due = {9, 9, 8, 8, 0, 0};
        for (int a = 0; a < due.length; a++) {
            Check.due("heard 0 " + a, x.heard(0, a), due[a]);
        }
        Check.due("heard 0 22", x.heard(0, 22), 1);
        Check.due("heard 0 21", x.heard(0, 21), 0);
        x.sets(2, 3);
        x.plays(0, 8);
        Check.due("two ANGLES at the end are not HEARD", x.heard(0, 0), 8);
        Check.due("the first ones are", x.heard(0, 23), 1);
        x.plays(0, 50);
        Check.due("nothing is HEARD", x.heard(0, 22), 0);
        Check.refused("heard 1 0, not PINNED", x, () -> x.heard(1, 0), OrganBarrel.NO);
        int[][] bad = {{-1, 0}, {3, 0}, {0, -1}, {0, 24}, {1, 24}};
        for (int[] b : bad) {
            Check.refused("heard " + b[0] + " " + b[1], x, () -> x.heard(b[0], b[1]), OrganBarrel.BAD);
        }
    }

    private static void tells() {
        OrganBarrel x = new OrganBarrel();
        x.sets(0, 2);
        x.ticks(0, 7);
        x.note(0, 1, 3, 2);
        x.shift(0, 15);
        x.pins(0);
        x.sets(0, 0);
        x.shift(0, 0);
        x.ticks(0, 24);
        int[] due = {0, 0, 0, 2, 2, 0, 0};
        for (int s = 0; s < due.length; s++) {
            Check.due("tells 0 " + s, x.tells(0, s), due[s]);
        }
        Check.refused("tells 0 7: TICKS as PINNED", x, () -> x.tells(0, 7), OrganBarrel.NO);
        Check.refused("tells 0 max", x, () -> x.tells(0, Integer.MAX_VALUE), OrganBarrel.NO);
        Check.refused("tells 1 0, not PINNED", x, () -> x.tells(1, 0), OrganBarrel.NO);
        int[][] bad = {{-1, 0}, {3, 0}, {0, -1}, {1, -1}};
        for (int[] b : bad) {
            Check.refused("tells " + b[0] + " " + b[1], x, () -> x.tells(b[0], b[1]), OrganBarrel.BAD);
        }
    }

    private static void wrong() {
        OrganBarrel x = new OrganBarrel();
        Check.refused("wrong 0, not PINNED", x, () -> x.wrong(0), OrganBarrel.NO);
        Check.refused("wrong -1", x, () -> x.wrong(-1), OrganBarrel.BAD);
        Check.refused("wrong 3", x, () -> x.wrong(3), OrganBarrel.BAD);
        for (int way = 0; way <= 2; way++) {
            for (int l = 1; l <= 24; l++) {
                wrongAtFirst(way, l);
            }
        }
    }

    private static void wrongAtFirst(int way, int l) {
        OrganBarrel x = new OrganBarrel();
        x.sets(0, way);
        x.gap(0, 0);
        x.gap(1, 0);
        x.ticks(0, l);
        x.note(0, 0, l / 2, l - l / 2);
        x.note(0, 1, 0, (l + 1) / 2);
        x.shift(0, l - 1);
        Check.due("pins 0", x.pins(0), 2);
        Check.due("a new TUNE plays as its NOTES tell", x.wrong(0), 0);
    }

    private static void wrongByWear() {
        OrganBarrel x = new OrganBarrel();
        x.ticks(0, 12);
        x.note(0, 0, 2, 4);
        x.pins(0);
        x.sets(2, 1);
        // A TICK of two ANGLES is told at its first: it is lost with the second one from behind.
        int[] due = {0, 0, 1, 1, 2, 2, 3, 3, 4, 4};
        for (int n = 1; n < due.length; n++) {
            x.plays(0, 1);
            Check.due("wrong 0 by WEAR " + n, x.wrong(0), due[n]);
        }
        x.mends(0);
        Check.due("wrong 0, mended", x.wrong(0), 0);
    }
}
