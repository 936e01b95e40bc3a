/** Promises 18 to 20: all, bridge, free. */
public final class BridgesTest {
    public static void main(String[] args) {
        all();
        bridge();
        bridgesHangTogether();
        free();
        Check.end();
    }

    /** R 12, 2 KEYS, 3 TUNES: a bridge of 0 0, 1 0, 2 0 at 10 .. 1, PINS at 4 and, on the last TRACK, at 4. */
    private static OrganBarrel three() {
        OrganBarrel x = new OrganBarrel();
        x.barrel(12, 2, 3);
        x.shift(0, 10);
        x.shift(1, 10);
        x.note(0, 0, 0, 4);
        x.note(0, 0, 6, 1);
        x.note(1, 0, 0, 4);
        x.note(2, 0, 8, 4);
        x.shift(2, 2);
        x.note(2, 1, 2, 2);
        Check.due("pins 0", x.pins(0), 2);
        Check.due("pins 1", x.pins(1), 1);
        Check.due("pins 2", x.pins(2), 2);
        return x;
    }

    private static void all() {
        OrganBarrel x = three();
        int[] due = {7, 5, 3, 1, 0, 2, 4};
        for (int what = 0; what < due.length; what++) {
            Check.due("all " + what, x.all(what), due[what]);
        }
        x.sets(2, 9);
        x.plays(0, 3);
        x.plays(1, 6);
        Check.due("all 4: WEAR together is LIMIT", x.all(4), 1);
        x.off(0);
        Check.due("all 0", x.all(0), 6);
        Check.due("all 1", x.all(1), 3);
        Check.due("all 4: WEAR of the rest is 6", x.all(4), 0);
        Check.due("all 5", x.all(5), 3);
        Check.refused("all -1", x, () -> x.all(-1), OrganBarrel.BAD);
        Check.refused("all 7", x, () -> x.all(7), OrganBarrel.BAD);
        x.off(1);
        x.off(2);
        Check.due("all 6, no PIN", x.all(6), 12);
        Check.due("all 5, no PIN", x.all(5), 6);
        x.ticks(0, 1);
        x.note(0, 0, 0, 1);
        x.gap(0, 0);
        x.pins(0);
        Check.due("all 6, all HELD", x.all(6), 0);
    }

    private static void bridge() {
        OrganBarrel x = three();
        x.sets(2, 4);
        x.plays(0, 1);
        x.plays(2, 5);
        int[][] due = {{4, 1, 0, 1, 1, 0}, {4, 2, 5, 1, 5, 1}, {10, 4, 0, 3, 6, 1}};
        for (int i = 0; i < due.length; i++) {
            for (int what = 0; what <= 5; what++) {
                Check.due("bridge " + i + " " + what, x.bridge(i, what), due[i][what]);
            }
        }
        x.plays(2, 50);
        Check.due("all that it HOLDS at most", x.bridge(1, 5), 2);
        Check.due("bridge 3 0, not so many", x.bridge(3, 0), OrganBarrel.NONE);
        Check.due("bridge max 5", x.bridge(Integer.MAX_VALUE, 5), OrganBarrel.NONE);
        Check.due("NONE is no refusal", x.told(0) + x.told(1) + x.told(2), 0);
        int[][] bad = {{-1, 0}, {0, -1}, {0, 6}, {9, 6}};
        for (int[] b : bad) {
            Check.refused("bridge " + b[0] + " " + b[1], x, () -> x.bridge(b[0], b[1]), OrganBarrel.BAD);
        }
    }

    private static void bridgesHangTogether() {
        OrganBarrel x = new OrganBarrel();
        for (int k = 0; k < 4; k++) {
            x.note(0, k, 3, 2);
            x.note(2, k, 3, 2);
        }
        x.settles();
        // TRACKS 0; 2 and 3; 5 and 6; 8 and 9; 11
        Check.due("BRIDGES without TUNE 1", x.all(2), 5);
        Check.due("BRIDGES of more than one", x.all(3), 3);
        Check.due("first TRACK of bridge 1", x.bridge(1, 2), 2);
        Check.due("bridge of PIN 1 of TUNE 0", x.pin(0, 1, 4), 1);
        x.note(1, 1, 3, 2);
        x.pins(1);
        // TRACK 4 joins 2 and 3 with 5 and 6
        Check.due("BRIDGES joined", x.all(2), 4);
        Check.due("PINS of bridge 1", x.bridge(1, 3), 5);
        Check.due("bridge of PIN 2 of TUNE 0", x.pin(0, 2, 4), 1);
        x.off(1);
        Check.due("BRIDGES parted", x.all(2), 5);
    }

    private static void free() {
        OrganBarrel x = three();
        int[] due = {5, 8, 8, 12, 12, 10};
        for (int track = 0; track < due.length; track++) {
            Check.due("free " + track, x.free(track), due[track]);
        }
        Check.refused("free -1", x, () -> x.free(-1), OrganBarrel.BAD);
        Check.refused("free 6", x, () -> x.free(6), OrganBarrel.BAD);
        x.ticks(2, 12);
        x.note(2, 1, 0, 12);
        x.gap(1, 0);
        x.pins(2);
        Check.due("free 5, all HELD", x.free(5), 0);
        Check.due("free 2, its PIN gone", x.free(2), 12);
        x.barrel(24, 6, 3);
        Check.due("free 17", x.free(17), 24);
    }
}
