import java.util.Arrays;

/** The edges of SETTLING and promise 15; each sentence of the document has a test. */
public final class EdgesOfSettling {
    private static final int R = 6;

    private static final Twins NEW = new Twins("new", OrganBarrel::new);
    private static final Twins RICH = new Twins("rich", Made::rich);
    private static final Twins FULL = new Twins("full", Made::full);
    private static final Twins SMALL = new Twins("small", Made::small);

    public static void main(String[] args) {
        allAreTakenOff();
        theyArePinnedAsNow();
        leastShifts();
        bothOthersGoOn();
        byWayAsNow();
        byAnglesAsNow();
        likeSums();
        shiftsGoRound();
        farShifts();
        shiftsOfOthersStay();
        answersTheSum();
        noNotes();
        tooSoonOfTheFirst();
        noShifts();
        leavesAState();
        Check.end();
    }

    private static void allAreTakenOff() {
        Check.sentence("SETTLING: all TUNES are taken OFF");
        OrganBarrel x = new OrganBarrel();
        x.gap(0, 0);
        x.note(1, 0, 0, 24);
        x.pins(1);
        x.ticks(1, 24);
        x.note(0, 0, 3, 2);
        x.note(2, 0, 4, 2);
        Check.due("pins 0: TUNE 1 is in the way", x.pins(0), OrganBarrel.NO);
        Check.due("settles: it is not", x.settles(), 0);
        Check.due("PINNED TUNES", x.all(0), 5);
        Check.due("TUNE 1 is OFF", x.tune(1, 3), 0);
    }

    private static void theyArePinnedAsNow() {
        Check.sentence("then those that have NOTES are PINNED");
        OrganBarrel x = Made.full();
        x.plays(0, 50);
        x.ticks(1, 5);
        x.sets(0, 2);
        x.note(1, 0, 1, 1);
        x.shift(2, 7);
        // TUNE 1 has 5 .. 9 of KEY 0 now, beside 1 .. 4 and 13 .. 16 of both others: one ANGLE on it is APART by SIDE 1.
        Check.due("settles", x.settles(), 1);
        int[][] due = {{24, 12, 0, 1, 24, 0, 12, 2}, {5, 1, 1, 1, 5, 1, 1, 2}, {24, 12, 0, 1, 24, 0, 12, 2}};
        for (int t = 0; t < 3; t++) {
            for (int what = 0; what <= 7; what++) {
                Check.due("tune " + t + " " + what, x.tune(t, what), due[t][what]);
            }
            Check.due("WEAR of TUNE " + t, x.pin(t, 0, 3), 0);
        }
        Check.due("BEGIN", x.pin(1, 0, 1), 6);
        Check.due("HOLDS", x.pin(1, 0, 2), 5);
    }

    /** Every choice of one NOTE or none in 3 TUNES of 6 ANGLES, with all SHIFTS tried. */
    private static void leastShifts() {
        Check.sentence("PINNED by SHIFTS (each 0 .. R less 1) by which all can be beside one another: those of the least sum, of like "
                + "ones of the least SHIFT of TUNE 0, then 1, then 2.");
        int[][] notes = new int[R * (R + 1) / 2 + 1][];
        int count = 1;
        for (int s = 0; s < R; s++) {
            for (int l = 1; l <= R - s; l++) {
                notes[count] = new int[] {s, l};
                count++;
            }
        }
        for (int side = 0; side <= 2; side++) {
            settlesAll(side, notes, new int[] {0, 0, 0});
        }
        int[][] few = {null, {0, 1}, {0, 4}, {1, 2}, {3, 3}, {5, 1}};
        for (int keys = 1; keys < 8; keys++) {
            for (int side = 0; side <= 3; side++) {
                settlesAll(side, few, new int[] {keys & 1, keys >> 1 & 1, keys >> 2});
            }
        }
    }

    private static void settlesAll(int side, int[][] notes, int[] keys) {
        for (int[] a : notes) {
            for (int[] b : notes) {
                for (int[] c : notes) {
                    if (a != null || b != null || c != null) {
                        settles(side, new int[][] {a, b, c}, keys);
                    }
                }
            }
        }
    }

    private static void settles(int side, int[][] notes, int[] keys) {
        OrganBarrel x = new OrganBarrel();
        x.barrel(R, 2, 3);
        x.gap(0, 0);
        x.gap(1, 0);
        x.side(side);
        for (int t = 0; t < 3; t++) {
            if (notes[t] != null) {
                x.note(t, keys[t], notes[t][0], notes[t][1]);
            }
        }
        int[] best = tryAll(side, notes, keys);
        Check.due("settles", x.settles(), best == null ? OrganBarrel.NO : best[0] + best[1] + best[2]);
        for (int t = 0; t < 3; t++) {
            boolean pinned = best != null && notes[t] != null;
            Check.due("SHIFT of TUNE " + t, x.tune(t, 2), pinned ? best[t] : 0);
            Check.due("SHIFT as PINNED of TUNE " + t, x.tune(t, 5), pinned ? best[t] : OrganBarrel.NONE);
        }
    }

    private static int[] tryAll(int side, int[][] notes, int[] keys) {
        int[] best = null;
        for (int a = 0; a < (notes[0] == null ? 1 : R); a++) {
            for (int b = 0; b < (notes[1] == null ? 1 : R); b++) {
                for (int c = 0; c < (notes[2] == null ? 1 : R); c++) {
                    boolean less = best == null || a + b + c < best[0] + best[1] + best[2];
                    if (less && allBeside(side, notes, keys, new int[] {a, b, c})) {
                        best = new int[] {a, b, c};
                    }
                }
            }
        }
        return best;
    }

    private static boolean allBeside(int side, int[][] notes, int[] keys, int[] shifts) {
        for (int t = 0; t < 3; t++) {
            for (int u = t + 1; u < 3; u++) {
                boolean neighbours = Math.abs(3 * keys[t] + t - 3 * keys[u] - u) == 1;
                if (neighbours && !beside(side, notes[t], shifts[t], notes[u], shifts[u])) {
                    return false;
                }
            }
        }
        return true;
    }

    private static boolean beside(int side, int[] one, int shift, int[] other, int otherShift) {
        if (one == null || other == null) {
            return true;
        }
        int from = (one[0] + shift) % R;
        int to = (other[0] + otherShift) % R;
        if (from == to) {
            return one[1] == other[1];
        }
        return (to - from + R) % R >= one[1] + side && (from - to + R) % R >= other[1] + side;
    }

    private static void bothOthersGoOn() {
        Check.sentence("those of the least sum (of two SHIFTS, where one would do)");
        // TUNE 2 lies between both others and has 0 .. 7. TUNE 0 at 6 and TUNE 1 at 5 go on to 9; or TUNE 2 goes on by 8.
        for (int limit : new int[] {1, 2, 3, 4, 20, 99}) {
            OrganBarrel x = new OrganBarrel();
            x.barrel(12, 2, 3);
            x.sets(2, limit);
            x.note(0, 1, 6, 1);
            x.note(1, 0, 5, 1);
            x.note(2, 0, 0, 8);
            Check.due("settles by LIMIT " + limit, x.settles(), 7);
            Check.due("SHIFT of TUNE 0", x.tune(0, 2), 3);
            Check.due("SHIFT of TUNE 1", x.tune(1, 2), 4);
            Check.due("SHIFT of TUNE 2", x.tune(2, 2), 0);
        }
    }

    /** TICK 2 of 5 goes from 9.6 to 14.4: 9 .. 13 by WAY 0, 10 .. 13 by WAY 1, 10 .. 14 by WAY 2. */
    private static void byWayAsNow() {
        Check.sentence("PINNED by SHIFTS (WAY as it is then)");
        int[][] due = {{1, OrganBarrel.NO}, {0, 0}, {0, OrganBarrel.NO}};
        for (int way = 0; way <= 2; way++) {
            for (int room = 5; room >= 4; room--) {
                OrganBarrel x = new OrganBarrel();
                x.side(0);
                x.gap(0, 0);
                x.note(0, 0, 0, 10);
                x.note(0, 0, 10 + room, 6);
                x.ticks(1, 5);
                x.note(1, 0, 2, 1);
                x.sets(0, way);
                Check.due("settles, " + room + " ANGLES from 10 on, WAY " + way, x.settles(), due[way][5 - room]);
                Check.due("WAY as PINNED", x.tune(1, 7), due[way][5 - room] < 0 ? OrganBarrel.NONE : way);
            }
        }
    }

    private static void byAnglesAsNow() {
        Check.sentence("SHIFTS (each 0 .. R less 1) (R as it is then)");
        for (int r = 6; r < 24; r++) {
            OrganBarrel x = new OrganBarrel();
            for (int t = 0; t < 3; t++) {
                x.note(t, 0, 4 * t, 2);
            }
            Check.due("settles of 24 ANGLES", x.settles(), 0);
            x.barrel(r, 1, 3);
            x.note(0, 0, 0, 1);
            x.note(1, 0, 0, 1);
            x.note(2, 0, 0, r - 1);
            Check.due("settles of " + r + ", no room for TUNE 2 by SIDE 1", x.settles(), OrganBarrel.NO);
            Check.cause("settles of " + r, x, 3, 0, 0, OrganBarrel.NONE);
            x.side(0);
            Check.due("settles of " + r + " by SIDE 0", x.settles(), 1);
            Check.due("SHIFT of TUNE 2", x.tune(2, 2), 1);
        }
    }

    private static void likeSums() {
        Check.sentence("of like ones of the least SHIFT of TUNE 0, then 1, then 2");
        // 4 ANGLES from 0 on, and 2 from 1 on: the one goes on by 4, or the other does.
        int[][] pairs = {{0, 1}, {1, 0}, {1, 2}, {2, 1}};
        for (int[] pair : pairs) {
            OrganBarrel x = new OrganBarrel();
            x.note(pair[0], 0, 0, 4);
            x.note(pair[1], 0, 1, 2);
            Check.due("settles", x.settles(), 4);
            int lesser = Math.min(pair[0], pair[1]);
            Check.due("SHIFT of TUNE " + lesser, x.tune(lesser, 2), 0);
            Check.due("SHIFT of the other", x.tune(lesser + 1, 2), 4);
        }
    }

    private static void shiftsGoRound() {
        Check.sentence("SHIFTS (each 0 .. R less 1)");
        for (int r = 6; r <= 24; r++) {
            // By SIDE 0 the second one fills what the first one leaves, to the last ANGLE.
            OrganBarrel x = new OrganBarrel();
            x.barrel(r, 1, 2);
            x.gap(0, 0);
            x.side(0);
            x.note(0, 0, 0, 1);
            x.note(1, 0, 0, r - 1);
            Check.due("settles", x.settles(), 1);
            Check.due("SHIFT of TUNE 0", x.tune(0, 2), 0);
            Check.due("SHIFT of TUNE 1", x.tune(1, 2), 1);
            x.ticks(1, r);
            x.note(1, 0, 0, r - 1);
            x.note(1, 0, r - 1, 1);
            // No place but ALIKE to the one at the last ANGLE, which comes round to 0.
            Check.due("settles", x.settles(), 1);
            Check.due("SHIFT of TUNE 0", x.tune(0, 2), 0);
            Check.due("SHIFT of TUNE 1", x.tune(1, 2), 1);
            x.ticks(0, r);
            x.note(0, 0, 0, r - 1);
            x.note(0, 0, r - 1, 1);
            Check.due("settles: ALIKE, as they are", x.settles(), 0);
            x.ticks(0, r);
            x.note(0, 0, 1, r - 1);
            x.note(0, 0, 0, 1);
            Check.due("settles: ALIKE, one of them on by 1 or R less 1", x.settles(), 1);
            Check.due("SHIFT of TUNE 0", x.tune(0, 2), 0);
        }
    }

    /**
     * Each TUNE has two PINS that leave no ANGLE, of c and of the other ANGLES; those of c must all begin at one ANGLE. A
     * TUNE begins with the one or with the other, so that SHIFTS up to two thirds of R are needed.
     */
    private static void farShifts() {
        Check.sentence("SHIFTS (each 0 .. R less 1) .. those of the least sum (far ones)");
        int farthest = 0;
        for (int r = 6; r <= 24; r++) {
            for (int c = 1; c < r; c++) {
                for (int about = 0; about < 8 && 2 * c != r; about++) {
                    farthest = Math.max(farthest, settlesFar(r, c, about));
                }
            }
        }
        Check.due("the farthest SHIFT of 24 ANGLES", farthest, 16);
    }

    private static int settlesFar(int r, int c, int about) {
        OrganBarrel x = new OrganBarrel();
        x.barrel(r, 1, 3);
        x.gap(0, 0);
        x.side(0);
        int[] from = new int[3];
        for (int t = 0; t < 3; t++) {
            boolean last = (about >> t & 1) == 1;
            from[t] = last ? r - c : 0;
            x.note(t, 0, 0, last ? r - c : c);
            x.note(t, 0, last ? r - c : c, last ? c : r - c);
        }
        int[] best = null;
        for (int at = 0; at < r; at++) {
            int[] shifts = new int[3];
            for (int t = 0; t < 3; t++) {
                shifts[t] = (at - from[t] + r) % r;
            }
            best = best == null || isLess(shifts, best) ? shifts : best;
        }
        String size = ", R " + r + ", PINS of " + c + ", turned about " + about;
        Check.due("settles" + size, x.settles(), best[0] + best[1] + best[2]);
        for (int t = 0; t < 3; t++) {
            Check.due("SHIFT of TUNE " + t + size, x.tune(t, 2), best[t]);
        }
        return Math.max(best[0], Math.max(best[1], best[2]));
    }

    private static boolean isLess(int[] one, int[] other) {
        int sum = one[0] + one[1] + one[2] - other[0] - other[1] - other[2];
        return sum != 0 ? sum < 0 : Arrays.compare(one, other) < 0;
    }

    private static void shiftsOfOthersStay() {
        Check.sentence("(SHIFTS of others stay.)");
        OrganBarrel x = new OrganBarrel();
        x.shift(0, 23);
        x.shift(1, 11);
        x.shift(2, 5);
        x.note(1, 0, 0, 1);
        Check.due("settles", x.settles(), 0);
        Check.due("SHIFT of TUNE 0, no NOTES", x.tune(0, 2), 23);
        Check.due("SHIFT of TUNE 1", x.tune(1, 2), 0);
        Check.due("SHIFT of TUNE 2, no NOTES", x.tune(2, 2), 5);
    }

    private static void answersTheSum() {
        Check.sentence("SETTLING: SHIFTS of all that are PINNED then together.");
        OrganBarrel x = new OrganBarrel();
        x.shift(1, 20);
        x.note(0, 0, 0, 1);
        x.note(2, 0, 0, 2);
        Check.due("SHIFT of one that is not PINNED is not in it", x.settles(), 0);
        OrganBarrel y = Made.large();
        y.note(0, 0, 0, 2);
        y.note(1, 0, 0, 3);
        y.note(2, 0, 0, 4);
        // TUNE 1 stays, TUNE 0 goes on by 4 and TUNE 2 too; or TUNE 1 goes on by 5, behind both.
        Check.due("settles", y.settles(), 5);
        Check.due("SHIFT of TUNE 1", y.tune(1, 2), 5);
    }

    private static void noNotes() {
        Check.sentence("If it can not be: KIND 4, if no TUNE has NOTES");
        NEW.noBecause("settles", OrganBarrel::settles, 4, 0, 0);
        SMALL.noBecause("settles", OrganBarrel::settles, 4, 0, 0);
        Twins pinned = new Twins("full, NOTES gone,", () -> {
            OrganBarrel x = Made.full();
            for (int t = 0; t < 3; t++) {
                x.ticks(t, 24);
            }
            return x;
        });
        pinned.noBecause("settles, all PINNED yet", OrganBarrel::settles, 4, 0, 0);
    }

    private static void tooSoonOfTheFirst() {
        Check.sentence("KIND 1 of the first TUNE of which (1) does not hold");
        for (int first = 0; first < 3; first++) {
            int from = first;
            Twins twins = new Twins("rich, (1) not of TUNES from " + from + " on,", () -> {
                OrganBarrel x = Made.rich();
                x.gap(1, 3);
                for (int t = from; t < 3; t++) {
                    x.ticks(t, 18);
                    x.note(t, 0, 0, 1);
                    x.note(t, 1, 3, 2);
                    x.note(t, 1, 5 + t, 1);
                }
                return x;
            });
            twins.noBecause("settles", OrganBarrel::settles, 1, 1, from);
        }
        for (int t = 0; t < 3; t++) {
            OrganBarrel alone = new OrganBarrel();
            alone.note(0, 0, 0, 23 + (t == 0 ? 1 : 0));
            alone.note(1, 1, 0, 23 + (t == 1 ? 1 : 0));
            alone.note(2, 3, 0, 23 + (t == 2 ? 1 : 0));
            Check.due("settles, (1) not of TUNE " + t + " alone", alone.settles(), OrganBarrel.NO);
            Check.cause("TUNE " + t + " alone", alone, 1, 0, 0, -1);
            Check.due("PINNED TUNES", alone.all(0), 0);
        }
        OrganBarrel x = new OrganBarrel();
        x.gap(3, 0);
        x.note(2, 3, 0, 24);
        x.note(2, 0, 0, 23);
        x.note(2, 1, 0, 24);
        x.note(1, 0, 0, 24);
        Check.due("settles", x.settles(), OrganBarrel.NO);
        Check.cause("TUNE 1 before TUNE 2", x, 1, 0, 0, -1);
        x.ticks(1, 24);
        Check.due("settles", x.settles(), OrganBarrel.NO);
        Check.cause("NOTE 2 of TUNE 2", x, 1, 2, 0, -1);
    }

    private static void noShifts() {
        Check.sentence("else 3");
        RICH.noBecause("settles", OrganBarrel::settles, 3, 0, 0);
        // Just room, or just none: 7 and 9 and twice SIDE are 18 or 20 ANGLES.
        for (int side = 0; side <= 3; side++) {
            OrganBarrel x = new OrganBarrel();
            x.barrel(18, 1, 3);
            x.side(side);
            x.note(1, 0, 0, 7);
            x.note(2, 0, 0, 9);
            Check.due("settles by SIDE " + side, x.settles(), side <= 1 ? 7 + side : OrganBarrel.NO);
            Check.due("KIND", x.why(0), side <= 1 ? 0 : 3);
            Check.due("PINNED TUNES", x.all(0), side <= 1 ? 6 : 0);
        }
    }

    private static void leavesAState() {
        Check.sentence("settles: S. NO, and CAUSE.");
        FULL.does("settles", OrganBarrel::settles, 0);
        new Twins("rich, TUNE 2 without NOTES,", () -> {
            OrganBarrel x = Made.rich();
            x.ticks(2, 9);
            return x;
        }).does("settles", OrganBarrel::settles, 0);
    }
}
