/** Promises 12 to 17: pins, off, fits, settles, pin, why. */
public final class PinsTest {
    public static void main(String[] args) {
        pins();
        pinsTooSoon();
        pinsTouching();
        pinsTouchingLeastFirst();
        pinsBesideOnlyNeighbours();
        pinsStay();
        off();
        fits();
        settles();
        settlesByLeastShifts();
        settlesRefused();
        pin();
        why();
        Check.end();
    }

    private static void pins() {
        OrganBarrel x = new OrganBarrel();
        x.note(0, 0, 0, 2);
        x.note(0, 0, 4, 2);
        Check.due("pins 0", x.pins(0), 2);
        Check.due("it is PINNED", x.tune(0, 3), 1);
        x.plays(0, 5);
        Check.due("pins 0 anew", x.pins(0), 2);
        Check.due("WEAR is 0 anew", x.pin(0, 0, 3), 0);
        Check.due("back", x.back(), 4);
        Check.due("WEAR is back", x.pin(0, 0, 3), 5);
        Check.refused("pins 1, no NOTES", x, () -> x.pins(1), OrganBarrel.NO);
        Check.cause("pins 1", x, 4, 0, 0, -1);
        Check.refused("pins -1", x, () -> x.pins(-1), OrganBarrel.BAD);
        Check.refused("pins 3", x, () -> x.pins(3), OrganBarrel.BAD);
        Check.cause("pins 3 leaves CAUSE", x, 4, 0, 0, -1);
    }

    private static void pinsTooSoon() {
        OrganBarrel x = new OrganBarrel();
        x.note(0, 1, 10, 3);
        x.note(0, 0, 0, 2);
        x.note(0, 0, 4, 2);
        x.note(0, 0, 22, 2);
        x.gap(0, 2);
        // NOTE 3 ends where NOTE 1 begins, round
        Check.refused("pins 0", x, () -> x.pins(0), OrganBarrel.NO);
        Check.cause("no ANGLE FREE", x, 1, 3, 0, -1);
        x.gap(0, 3);
        Check.refused("pins 0", x, () -> x.pins(0), OrganBarrel.NO);
        Check.cause("the least NOTE", x, 1, 1, 2, -1);
        x.drop(0, 3);
        x.gap(0, 2);
        Check.due("FREE is just the GAP", x.pins(0), 3);
        x.ticks(1, 24);
        x.note(1, 3, 0, 24);
        Check.refused("pins 1, all the way round", x, () -> x.pins(1), OrganBarrel.NO);
        Check.cause("all the way round", x, 1, 0, 0, -1);
        x.gap(3, 0);
        Check.due("pins 1 by GAP 0", x.pins(1), 1);
    }

    private static void pinsTouching() {
        OrganBarrel x = new OrganBarrel();
        x.note(0, 0, 4, 3);
        x.pins(0);
        x.note(1, 0, 8, 2);
        Check.due("APART by SIDE 1", x.pins(1), 1);
        x.side(2);
        Check.refused("not APART by SIDE 2", x, () -> x.pins(1), OrganBarrel.NO);
        Check.cause("touching", x, 2, 0, 0, -1);
        x.side(0);
        x.shift(1, 23);
        Check.due("APART by SIDE 0", x.pins(1), 1);
        x.shift(1, 18);
        Check.due("APART by SIDE 0 before it", x.pins(1), 1);
        x.shift(1, 19);
        Check.refused("the other way", x, () -> x.pins(1), OrganBarrel.NO);
        x.shift(1, 20);
        Check.refused("the same BEGIN, not as many ANGLES", x, () -> x.pins(1), OrganBarrel.NO);
        x.ticks(1, 24);
        x.note(1, 0, 8, 3);
        Check.due("ALIKE", x.pins(1), 1);
        x.side(3);
        Check.due("ALIKE by any SIDE", x.pins(1), 1);
    }

    private static void pinsTouchingLeastFirst() {
        OrganBarrel x = new OrganBarrel();
        // TUNE 1 lies between 0 and 2 on each KEY; TUNE 2 of KEY 0 beside TUNE 0 of KEY 1
        x.note(0, 0, 0, 1);
        x.note(0, 0, 10, 4);
        x.pins(0);
        x.note(2, 0, 11, 1);
        x.note(2, 0, 20, 3);
        Check.due("pins 2: TUNE 0 is no NEIGHBOUR of it on KEY 0", x.pins(2), 2);
        x.note(1, 0, 5, 1);
        x.note(1, 0, 21, 1);
        Check.refused("pins 1", x, () -> x.pins(1), OrganBarrel.NO);
        Check.cause("only by PIN 1 of TUNE 2", x, 2, 1, 33, -1);
        x.drop(1, 1);
        x.note(1, 0, 12, 1);
        Check.refused("pins 1", x, () -> x.pins(1), OrganBarrel.NO);
        Check.cause("TUNE 0 is the least", x, 2, 1, 1, -1);
        x.off(0);
        Check.refused("pins 1", x, () -> x.pins(1), OrganBarrel.NO);
        Check.cause("TUNE 2 is there yet", x, 2, 1, 32, -1);
        x.gap(0, 6);
        x.note(1, 0, 8, 1);
        Check.refused("pins 1", x, () -> x.pins(1), OrganBarrel.NO);
        Check.cause("(1) is asked first, of all", x, 1, 0, 2, -1);
    }

    private static void pinsBesideOnlyNeighbours() {
        OrganBarrel x = new OrganBarrel();
        x.note(2, 0, 5, 3);
        x.pins(2);
        x.note(0, 1, 6, 3);
        Check.refused("TRACKS 2 and 3 are NEIGHBOURS", x, () -> x.pins(0), OrganBarrel.NO);
        x.ticks(0, 24);
        x.note(0, 2, 6, 3);
        Check.due("TRACKS 2 and 6 are none", x.pins(0), 1);
        x.barrel(12, 2, 2);
        x.note(1, 0, 5, 3);
        x.pins(1);
        x.note(0, 1, 6, 3);
        Check.refused("TRACKS 1 and 2 are NEIGHBOURS", x, () -> x.pins(0), OrganBarrel.NO);
        Check.cause("TUNE 1", x, 2, 0, 16, -1);
    }

    private static void pinsStay() {
        OrganBarrel x = new OrganBarrel();
        x.note(0, 0, 4, 2);
        x.note(0, 0, 8, 2);
        x.pins(0);
        x.gap(0, 6);
        x.side(3);
        x.sets(0, 2);
        x.ticks(0, 3);
        x.shift(0, 9);
        int[] due = {0, 4, 2, 0, 0, 2};
        for (int what = 0; what < due.length; what++) {
            Check.due("pin 0 0 " + what + " stays", x.pin(0, 0, what), due[what]);
        }
        Check.due("wrong 0 by NOTES as PINNED", x.wrong(0), 0);
        Check.due("tells 0 8 by TICKS as PINNED", x.tells(0, 8), 1);
        Check.refused("pins 0, no NOTES now", x, () -> x.pins(0), OrganBarrel.NO);
    }

    private static void off() {
        OrganBarrel x = new OrganBarrel();
        Check.refused("off 0, not PINNED", x, () -> x.off(0), OrganBarrel.NO);
        Check.cause("off by a call leaves CAUSE", x, 0, 0, 0, -1);
        x.note(0, 0, 0, 1);
        x.note(0, 1, 0, 1);
        x.note(0, 2, 0, 1);
        x.pins(0);
        x.ticks(0, 4);
        Check.due("off 0: PINS that it had", x.off(0), 3);
        Check.due("all 1", x.all(1), 0);
        Check.refused("off 0 again", x, () -> x.off(0), OrganBarrel.NO);
        Check.refused("off -1", x, () -> x.off(-1), OrganBarrel.BAD);
        Check.refused("off 3", x, () -> x.off(3), OrganBarrel.BAD);
        Check.due("back", x.back(), 4);
        Check.due("all 1 is back", x.all(1), 3);
    }

    private static void fits() {
        OrganBarrel x = new OrganBarrel();
        Check.due("fits 0, no NOTES", x.fits(0), OrganBarrel.NONE);
        x.note(0, 0, 0, 5);
        Check.due("fits 0, alone", x.fits(0), 0);
        x.shift(0, 3);
        x.pins(0);
        Check.due("fits 0 anew: its own PINS are not in the way", x.fits(0), 0);
        x.note(1, 0, 0, 3);
        // 0 .. 2 has 3 behind it at once; held are 3 .. 7: first behind 8 by SIDE 1
        Check.due("fits 1", x.fits(1), 9);
        x.side(0);
        Check.due("fits 1 by SIDE 0", x.fits(1), 0);
        x.side(3);
        Check.due("fits 1 by SIDE 3", x.fits(1), 11);
        Check.due("SHIFT stays", x.tune(1, 2), 0);
        Check.due("it is not PINNED", x.tune(1, 3), 0);
        x.note(1, 0, 3, 1);
        Check.due("fits 1, not (1)", x.fits(1), OrganBarrel.NONE);
        x.drop(1, 1);
        x.off(0);
        x.ticks(0, 1);
        x.note(0, 0, 0, 1);
        x.gap(0, 0);
        x.pins(0);
        Check.due("fits 1 beside what HOLDS all", x.fits(1), OrganBarrel.NONE);
        Check.cause("fits leaves CAUSE", x, 0, 0, 0, -1);
        Check.refused("fits -1", x, () -> x.fits(-1), OrganBarrel.BAD);
        Check.refused("fits 3", x, () -> x.fits(3), OrganBarrel.BAD);
    }

    private static void settles() {
        OrganBarrel x = new OrganBarrel();
        x.note(0, 0, 0, 4);
        x.shift(0, 9);
        x.note(2, 3, 0, 4);
        x.note(1, 0, 0, 1);
        x.pins(1);
        x.plays(1, 3);
        x.ticks(1, 24);
        x.shift(1, 7);
        Check.due("settles", x.settles(), 0);
        Check.due("TUNE 1 without NOTES is taken OFF", x.tune(1, 3), 0);
        Check.due("SHIFT of others stays", x.tune(1, 2), 7);
        Check.due("SHIFT becomes", x.tune(0, 2), 0);
        Check.due("SHIFT as PINNED", x.tune(0, 5), 0);
        Check.due("PINNED TUNES", x.all(0), 5);
        Check.due("one STATE", x.back(), 4);
        Check.due("PINNED TUNES before", x.all(0), 2);
        Check.due("WEAR before", x.pin(1, 0, 3), 3);
        Check.due("SHIFT before", x.tune(0, 2), 9);
        x.note(1, 0, 0, 1);
        Check.due("settles", x.settles(), 2);
        Check.due("WEAR is 0", x.pin(1, 0, 3), 0);
    }

    private static void settlesByLeastShifts() {
        OrganBarrel x = new OrganBarrel();
        // The same BEGIN, 4 and 2 ANGLES: TUNE 0 by 3 (behind 2 and SIDE), or TUNE 1 by 5
        x.note(0, 0, 0, 4);
        x.note(1, 0, 0, 2);
        Check.due("settles", x.settles(), 3);
        Check.due("SHIFT of TUNE 0", x.tune(0, 2), 3);
        Check.due("SHIFT of TUNE 1", x.tune(1, 2), 0);
        x.barrel(24, 4, 3);
        // TUNE 1 in the middle of both: it must go 4 behind, or both others must: the sum of one is less
        x.note(0, 0, 0, 3);
        x.note(1, 0, 0, 1);
        x.note(2, 0, 0, 3);
        Check.due("settles three", x.settles(), 4);
        Check.due("SHIFT of TUNE 0", x.tune(0, 2), 0);
        Check.due("SHIFT of TUNE 1", x.tune(1, 2), 4);
        Check.due("SHIFT of TUNE 2", x.tune(2, 2), 0);
        x.barrel(24, 4, 3);
        // TUNE 0 by 4, or TUNE 1 by 4: of like sums the least SHIFT of TUNE 0
        x.note(0, 0, 0, 4);
        x.note(1, 0, 1, 2);
        Check.due("settles two", x.settles(), 4);
        Check.due("SHIFT of TUNE 0 is the least", x.tune(0, 2), 0);
        Check.due("SHIFT of TUNE 1", x.tune(1, 2), 4);
        x.barrel(24, 4, 3);
        x.note(1, 0, 0, 4);
        x.note(2, 0, 1, 2);
        Check.due("settles two others", x.settles(), 4);
        Check.due("SHIFT of TUNE 1 is the least", x.tune(1, 2), 0);
        Check.due("SHIFT of TUNE 2", x.tune(2, 2), 4);
        x.barrel(24, 1, 3);
        x.note(2, 0, 0, 3);
        x.note(1, 0, 0, 1);
        x.note(0, 0, 0, 1);
        Check.due("settles: TUNE 2 alone goes", x.settles(), 2);
        Check.due("SHIFT of TUNE 2", x.tune(2, 2), 2);
    }

    private static void settlesRefused() {
        OrganBarrel x = new OrganBarrel();
        Check.refused("settles, no NOTES", x, x::settles, OrganBarrel.NO);
        Check.cause("settles, no NOTES", x, 4, 0, 0, -1);
        x.note(0, 0, 0, 2);
        x.pins(0);
        x.note(1, 0, 0, 2);
        x.note(1, 0, 4, 1);
        x.note(1, 0, 5, 2);
        x.note(2, 0, 1, 1);
        x.note(2, 0, 2, 1);
        Check.refused("settles, not (1)", x, x::settles, OrganBarrel.NO);
        Check.cause("of TUNE 1, the first", x, 1, 1, 0, -1);
        Check.due("TUNE 0 is PINNED yet", x.tune(0, 3), 1);
        x.drop(1, 1);
        Check.refused("settles, not (1)", x, x::settles, OrganBarrel.NO);
        Check.cause("of TUNE 2", x, 1, 0, 0, -1);
        x.ticks(2, 1);
        x.note(2, 0, 0, 1);
        x.gap(0, 0);
        Check.refused("settles, no SHIFTS", x, x::settles, OrganBarrel.NO);
        Check.cause("settles, no SHIFTS", x, 3, 0, 0, -1);
        Check.due("TUNE 0 is PINNED yet", x.tune(0, 3), 1);
    }

    private static void pin() {
        OrganBarrel x = new OrganBarrel();
        x.ticks(1, 12);
        x.shift(1, 20);
        x.note(1, 2, 4, 1);
        x.note(1, 2, 6, 2);
        x.note(1, 0, 0, 1);
        x.pins(1);
        x.plays(1, 4);
        int[][] due = {{2, 4, 2, 4, 0, 2}, {2, 8, 4, 4, 1, 16}, {0, 20, 2, 4, 2, 22}};
        for (int i = 0; i < due.length; i++) {
            for (int what = 0; what <= 5; what++) {
                Check.due("pin 1 " + i + " " + what, x.pin(1, i, what), due[i][what]);
            }
        }
        Check.refused("pin 1 3 0, not so many", x, () -> x.pin(1, 3, 0), OrganBarrel.NO);
        Check.refused("pin 1 max 0", x, () -> x.pin(1, Integer.MAX_VALUE, 0), OrganBarrel.NO);
        Check.refused("pin 0 0 0, not PINNED", x, () -> x.pin(0, 0, 0), OrganBarrel.NO);
        int[][] bad = {{-1, 0, 0}, {3, 0, 0}, {1, -1, 0}, {0, -1, 0}, {1, 0, -1}, {1, 0, 6}, {0, 0, 6}};
        for (int[] b : bad) {
            Check.refused("pin " + b[0] + " " + b[1] + " " + b[2], x, () -> x.pin(b[0], b[1], b[2]), OrganBarrel.BAD);
        }
    }

    private static void why() {
        OrganBarrel x = new OrganBarrel();
        Check.cause("nothing", x, 0, 0, 0, -1);
        Check.due("why -1", x.why(-1), -10);
        Check.due("why 4", x.why(4), -10);
        Check.due("both count as BAD", x.told(0), 2);
        x.pins(0);
        x.note(0, 0, 0, 1);
        x.pins(0);
        Check.cause("the last refused one, though one was done since", x, 4, 0, 0, -1);
        x.back();
        Check.cause("CAUSE does not go back", x, 4, 0, 0, -1);
        Check.due("p1 stops", Check.reads(x, "e1;p1;"), -1001);
        Check.cause("by ORDER 1", x, 4, 0, 0, 1);
        x.pins(1);
        Check.cause("by a call again", x, 4, 0, 0, -1);
    }
}
