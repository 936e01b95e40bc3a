/** The edges of playing: WEAR, HEARD, TICKS told, and promises 21 to 25; each sentence of the document has a test. */
public final class EdgesOfPlaying {
    private static final Twins NEW = new Twins("new", OrganBarrel::new);
    private static final Twins RICH = new Twins("rich", Made::rich);
    private static final Twins FULL = new Twins("full", Made::full);
    private static final Twins SMALL = new Twins("small", Made::small);
    private static final Twins MANY = new Twins("many", Made::many);

    public static void main(String[] args) {
        playsLimits();
        playsNotPinned();
        playsWears();
        playsAnswers();
        playsCountsABridgeOnce();
        playsOneOfMany();
        mendsLimits();
        mendsNotSoMany();
        mendsAll();
        mendsOneOfMany();
        heardLimits();
        heardNotPinned();
        heardOfItsPins();
        heardButForTheEnd();
        heardIsOfATune();
        tellsLimits();
        tellsNo();
        tellsAsPinned();
        tellsRound();
        wrongLimits();
        wrongNone();
        wrongByWear();
        wrongByNotesAsPinned();
        wrongByWayAsPinned();
        wrongOfEachSize();
        takenOffIsNotPinned();
        Check.end();
    }

    private static void playsLimits() {
        Check.sentence("goes round n (1 .. 50) times .. BAD");
        RICH.limits("plays, n", v -> x -> x.plays(0, v), 1, 50);
        FULL.limits("plays, n", v -> x -> x.plays(2, v), 1, 50);
        RICH.limits("plays, TUNE", v -> x -> x.plays(v, 1), 0, 2);
        SMALL.limits("plays, TUNE", v -> x -> x.plays(v, 1), 0, 1);
        Check.sentence("the first of: BAD -2 a number is not as told; NO -3 as told (plays)");
        NEW.limits("plays, n, not PINNED", v -> x -> x.plays(0, v), 1, 50);
        RICH.limits("plays, n, not PINNED", v -> x -> x.plays(2, v), 1, 50);
    }

    private static void playsNotPinned() {
        Check.sentence("plays: NO: it is not PINNED.");
        NEW.no("plays 0 1", x -> x.plays(0, 1));
        SMALL.no("plays 1 50", x -> x.plays(1, 50));
        RICH.no("plays 2 50, though it has NOTES", x -> x.plays(2, 50));
        RICH.does("plays 1 50, though it has other NOTES", x -> x.plays(1, 50), 2);
    }

    private static void playsWears() {
        Check.sentence("WEAR of each of its PINS is n more");
        OrganBarrel x = Made.rich();
        x.plays(0, 50);
        for (int i = 0; i < 3; i++) {
            Check.due("WEAR of PIN " + i, x.pin(0, i, 3), 59);
        }
        Check.due("WEAR of another TUNE's, on the same BRIDGE", x.pin(1, 0, 3), 4);
        Check.due("WEAR of the BRIDGE", x.bridge(2, 4), 63);
        x.plays(1, 1);
        Check.due("WEAR of TUNE 1", x.pin(1, 0, 3), 5);
        Check.due("WEAR of TUNE 1", x.pin(1, 1, 3), 5);
        Check.due("WEAR of TUNE 0", x.pin(0, 1, 3), 59);
        x.plays(0, 51);
        x.plays(0, 0);
        Check.due("refused it wears nothing", x.pin(0, 1, 3), 59);
    }

    private static void playsAnswers() {
        Check.sentence("how many BRIDGES with one of its PINS are WORN then");
        RICH.does("plays 1 1: the first has WEAR 5, LIMIT is 7", x -> x.plays(1, 1), 1);
        RICH.does("plays 1 2: the first has WEAR 6", x -> x.plays(1, 2), 1);
        RICH.does("plays 1 3: the first has WEAR 7", x -> x.plays(1, 3), 2);
        RICH.does("plays 0 1: WORN before", x -> x.plays(0, 1), 3);
        OrganBarrel x = new OrganBarrel();
        x.note(0, 0, 0, 1);
        x.note(1, 1, 5, 1);
        x.note(2, 0, 9, 1);
        x.settles();
        Check.due("plays 0 50", x.plays(0, 50), 1);
        Check.due("plays 1 19: one of another TUNE is WORN", x.plays(1, 19), 0);
        Check.due("plays 2 20", x.plays(2, 20), 1);
        Check.due("plays 1 1", x.plays(1, 1), 1);
        Check.due("WORN of all", x.all(4), 3);
    }

    private static void playsCountsABridgeOnce() {
        Check.sentence("BRIDGES with one of its PINS (of several of them: once)");
        FULL.does("plays 0 1: 6 of its PINS on each of two", x -> x.plays(0, 1), 2);
        OrganBarrel x = Made.full();
        x.sets(2, 24);
        Check.due("plays 1 1: WEAR 24 by LIMIT 24", x.plays(1, 1), 2);
        x.back();
        x.sets(2, 25);
        Check.due("plays 1 1: WEAR 24 by LIMIT 25", x.plays(1, 1), 0);
    }

    private static void playsOneOfMany() {
        Check.sentence("how many BRIDGES with one of its PINS are WORN then (of 36)");
        MANY.does("plays 0 19", x -> x.plays(0, 19), 0);
        MANY.does("plays 0 20", x -> x.plays(0, 20), 12);
        MANY.does("plays 1 1", x -> x.plays(1, 1), 12);
        MANY.does("plays 2 1", x -> x.plays(2, 1), 12);
    }

    private static void mendsLimits() {
        Check.sentence("mends: BAD");
        for (Twins twins : new Twins[] {NEW, RICH, FULL}) {
            twins.bad("mends -1", x -> x.mends(-1));
            twins.bad("mends min", x -> x.mends(Integer.MIN_VALUE));
        }
    }

    private static void mendsNotSoMany() {
        Check.sentence("mends: NO: not so many.");
        NEW.no("mends 0", x -> x.mends(0));
        RICH.no("mends 4", x -> x.mends(4));
        RICH.does("mends 3", x -> x.mends(3), 9);
        FULL.no("mends 2", x -> x.mends(2));
        FULL.no("mends max", x -> x.mends(Integer.MAX_VALUE));
        FULL.does("mends 1", x -> x.mends(1), 18);
    }

    private static void mendsAll() {
        Check.sentence("WEAR of all PINS of the i-th BRIDGE is 0: what it was together.");
        OrganBarrel x = Made.rich();
        Check.due("mends 2", x.mends(2), 13);
        int[][] due = {{9, 0, 9}, {0, 4}};
        for (int t = 0; t < 2; t++) {
            for (int i = 0; i < due[t].length; i++) {
                Check.due("WEAR of PIN " + i + " of TUNE " + t, x.pin(t, i, 3), due[t][i]);
            }
        }
        Check.due("mends 2 again", x.mends(2), 0);
        Check.due("STATES: it is left though nothing was worn", x.told(10), 5);
        Check.due("WORN BRIDGES", x.all(4), 2);
        OrganBarrel y = Made.full();
        Check.due("mends 0", y.mends(0), 18);
        for (int i = 0; i < 12; i++) {
            Check.due("WEAR of PIN " + i, y.pin(2, i, 3), i % 2 == 0 ? 0 : 3);
        }
    }

    private static void mendsOneOfMany() {
        Check.sentence("mends: NO: not so many. (36)");
        MANY.does("mends 0", x -> x.mends(0), 0);
        MANY.does("mends 6", x -> x.mends(6), 20);
        MANY.does("mends 35", x -> x.mends(35), 19);
        MANY.no("mends 36", x -> x.mends(36));
        OrganBarrel x = Made.many();
        x.mends(35);
        for (int i = 0; i < 36; i++) {
            int due = i == 35 || i / 6 % 3 == 0 ? 0 : i / 6 % 3 == 1 ? 20 : 19;
            Check.due("WEAR of BRIDGE " + i, x.bridge(i, 4), due);
        }
    }

    private static void heardLimits() {
        Check.sentence("heard: BAD");
        RICH.limits("heard, ANGLE", v -> x -> x.heard(0, v), 0, 17);
        FULL.limits("heard, ANGLE", v -> x -> x.heard(0, v), 0, 23);
        RICH.limits("heard, TUNE", v -> x -> x.heard(v, 0), 0, 2);
        SMALL.limits("heard, TUNE", v -> x -> x.heard(v, 0), 0, 1);
        Check.sentence("the first of: BAD -2 a number is not as told; NO -3 as told (heard)");
        RICH.limits("heard, ANGLE, not PINNED", v -> x -> x.heard(2, v), 0, 17);
        SMALL.limits("heard, ANGLE, not PINNED", v -> x -> x.heard(1, v), 0, 5);
    }

    private static void heardNotPinned() {
        Check.sentence("heard: NO: it is not PINNED.");
        NEW.no("heard 0 0", x -> x.heard(0, 0));
        SMALL.no("heard 1 5", x -> x.heard(1, 5));
        RICH.no("heard 2 17, though it has NOTES", x -> x.heard(2, 17));
    }

    private static void heardOfItsPins() {
        Check.sentence("HEARD of a TUNE at an ANGLE: KEYS (bits) of which a PIN HOLDS it");
        OrganBarrel x = Made.large();
        for (int k = 0; k < 6; k++) {
            x.note(1, k, k, 18);
        }
        x.shift(1, 23);
        Check.due("pins 1", x.pins(1), 6);
        for (int a = 0; a < 24; a++) {
            int due = 0;
            for (int k = 0; k < 6; k++) {
                // KEY k is at 23 and k and the 17 behind it, round.
                if ((a + 24 - (23 + k) % 24) % 24 < 18) {
                    due += 1 << k;
                }
            }
            Check.due("heard 1 " + a, x.heard(1, a), due);
        }
    }

    private static void heardButForTheEnd() {
        Check.sentence("but for those ANGLES at the end of its BRIDGE");
        int[] tune0 = {0, 0, 0, 0, 4, 4, 4, 5, 5, 5, 5, 4, 4, 4, 4, 0, 1, 1};
        int[] tune1 = {4, 4, 0, 0, 0, 0, 0, 1, 1, 1, 1, 0, 0, 0, 0, 0, 0, 0};
        for (int i = 0; i < 18; i++) {
            int a = i;
            RICH.answers("heard 0 " + a, x -> x.heard(0, a), tune0[a]);
            RICH.answers("heard 1 " + a, x -> x.heard(1, a), tune1[a]);
        }
        OrganBarrel x = Made.rich();
        x.plays(0, 50);
        Check.due("TUNE 1 is not HEARD where TUNE 0 wore the BRIDGE that they share", x.heard(1, 7), 0);
        x.off(0);
        Check.due("it is, the other OFF", x.heard(1, 7), 1);
        Check.due("at the end, too", x.heard(1, 11), 1);
    }

    private static void heardIsOfATune() {
        Check.sentence("HEARD of a TUNE");
        OrganBarrel x = new OrganBarrel();
        x.note(0, 0, 0, 2);
        x.note(1, 1, 0, 2);
        x.note(2, 2, 0, 2);
        x.settles();
        for (int t = 0; t < 3; t++) {
            Check.due("heard " + t + " 1", x.heard(t, 1), 1 << t);
            Check.due("tells " + t + " 1", x.tells(t, 1), 1 << t);
        }
    }

    private static void tellsLimits() {
        Check.sentence("tells: BAD: no such TUNE, s below 0");
        RICH.limits("tells, TUNE", v -> x -> x.tells(v, 0), 0, 2);
        SMALL.limits("tells, TUNE", v -> x -> x.tells(v, 0), 0, 1);
        RICH.bad("tells 3, max", x -> x.tells(3, Integer.MAX_VALUE));
        for (Twins twins : new Twins[] {NEW, RICH, FULL, SMALL}) {
            twins.bad("tells 1 -1", x -> x.tells(1, -1));
            twins.bad("tells 1 min", x -> x.tells(1, Integer.MIN_VALUE));
        }
        RICH.bad("tells 2 -1, not PINNED", x -> x.tells(2, -1));
    }

    private static void tellsNo() {
        Check.sentence("tells: NO: it is not PINNED, s is not below its TICKS.");
        NEW.no("tells 0 0", x -> x.tells(0, 0));
        RICH.no("tells 2 0", x -> x.tells(2, 0));
        RICH.no("tells 2 max", x -> x.tells(2, Integer.MAX_VALUE));
        RICH.answers("tells 0 11, the last", x -> x.tells(0, 11), 0);
        RICH.no("tells 0 12", x -> x.tells(0, 12));
        RICH.answers("tells 1 17, of 18 as PINNED, though 5 now", x -> x.tells(1, 17), 0);
        RICH.no("tells 1 18", x -> x.tells(1, 18));
        FULL.no("tells 2 24", x -> x.tells(2, 24));
        FULL.no("tells 2 max", x -> x.tells(2, Integer.MAX_VALUE));
        OrganBarrel x = new OrganBarrel();
        x.ticks(0, 1);
        x.note(0, 0, 0, 1);
        x.gap(0, 0);
        x.pins(0);
        x.ticks(0, 24);
        Check.due("tells 0 0, the only one", x.tells(0, 0), 1);
        Check.due("tells 0 1", x.tells(0, 1), OrganBarrel.NO);
    }

    private static void tellsAsPinned() {
        Check.sentence("HEARD of a TUNE at the ANGLE of a TICK (both as PINNED: ANGLE by TICKS, WAY, and SHIFT, by R left over)");
        // 12 TICKS of 18 ANGLES by WAY 1 and SHIFT 16 are at 16, 0, 1, 3, 4, 6, 7, 9, 10, 12, 13, 15.
        int[] tune0 = {1, 0, 0, 0, 4, 4, 5, 5, 5, 4, 4, 0};
        for (int i = 0; i < 12; i++) {
            int s = i;
            RICH.answers("tells 0 " + s, x -> x.tells(0, s), tune0[s]);
        }
        for (int way = 0; way <= 2; way++) {
            for (int ticks = 1; ticks <= 24; ticks++) {
                OrganBarrel x = new OrganBarrel();
                x.sets(0, way);
                x.gap(0, 0);
                x.ticks(0, ticks);
                x.note(0, 0, ticks / 2, 1);
                x.shift(0, 13);
                x.pins(0);
                x.sets(0, 2 - way);
                x.shift(0, 0);
                x.ticks(0, 24);
                for (int s = 0; s < ticks; s++) {
                    Check.due("tells 0 " + s + " of " + ticks + " by WAY " + way, x.tells(0, s), s == ticks / 2 ? 1 : 0);
                }
            }
        }
    }

    private static void tellsRound() {
        Check.sentence("and SHIFT, by R left over");
        for (int d = 0; d < 6; d++) {
            OrganBarrel x = Made.small();
            x.note(0, 0, 5, 1);
            x.shift(0, d);
            x.pins(0);
            for (int s = 0; s < 6; s++) {
                Check.due("tells 0 " + s + " by SHIFT " + d, x.tells(0, s), s == 5 ? 1 : 0);
                Check.due("heard there", x.heard(0, (s + d) % 6), s == 5 ? 1 : 0);
            }
        }
    }

    private static void wrongLimits() {
        Check.sentence("wrong: BAD; NO: it is not PINNED.");
        RICH.limits("wrong, TUNE", v -> x -> x.wrong(v), 0, 2);
        SMALL.limits("wrong, TUNE", v -> x -> x.wrong(v), 0, 1);
        NEW.no("wrong 0", x -> x.wrong(0));
        RICH.no("wrong 2, though it has NOTES", x -> x.wrong(2));
        SMALL.no("wrong 1", x -> x.wrong(1));
    }

    private static void wrongNone() {
        Check.sentence("How many TICKS of a PINNED TUNE tell other KEYS than its NOTES at them");
        FULL.answers("wrong 0", x -> x.wrong(0), 0);
        RICH.answers("wrong 0: TICKS 1 and 11, at the ends of two BRIDGES", x -> x.wrong(0), 2);
        RICH.answers("wrong 1: TICK 11, at the end of the BRIDGE that is shared", x -> x.wrong(1), 1);
    }

    private static void wrongByWear() {
        Check.sentence("How many TICKS .. (all that it HOLDS at most)");
        OrganBarrel x = Made.large();
        for (int k = 0; k < 6; k++) {
            x.gap(k, 0);
            x.note(1, k, 0, 24);
        }
        x.pins(1);
        x.sets(2, 1);
        for (int n = 1; n <= 26; n++) {
            x.plays(1, 1);
            Check.due("wrong 1 by WEAR " + n, x.wrong(1), Math.min(24, n));
        }
        x.mends(0);
        Check.due("wrong 1, one KEY mended: the others are not HEARD yet", x.wrong(1), 24);
        for (int i = 1; i < 6; i++) {
            x.mends(i);
        }
        Check.due("wrong 1, all mended", x.wrong(1), 0);
        x.barrel(24, 1, 2);
        x.ticks(0, 4);
        x.note(0, 0, 0, 2);
        x.pins(0);
        x.sets(2, 1);
        x.plays(0, 5);
        Check.due("wrong 0: the first ANGLE of TICK 1 is HEARD", x.wrong(0), 0);
        x.plays(0, 1);
        Check.due("wrong 0: it is not", x.wrong(0), 1);
    }

    private static void wrongByNotesAsPinned() {
        Check.sentence("(NOTES as PINNED)");
        OrganBarrel x = Made.full();
        x.drop(0, 0);
        x.note(0, 0, 20, 4);
        Check.due("wrong 0, other NOTES now", x.wrong(0), 0);
        x.ticks(0, 3);
        x.shift(0, 4);
        x.sets(0, 2);
        Check.due("wrong 0, no NOTES now", x.wrong(0), 0);
        x.sets(2, 18);
        Check.due("wrong 0: one ANGLE at each end", x.wrong(0), 2);
    }

    private static void wrongByWayAsPinned() {
        Check.sentence("How many TICKS of a PINNED TUNE tell (ANGLE by .. WAY .. as PINNED)");
        OrganBarrel x = new OrganBarrel();
        x.ticks(0, 5);
        x.note(0, 0, 2, 1);
        x.pins(0);
        x.sets(2, 1);
        x.plays(0, 4);
        // TICK 2 is at 9.6: by WAY 0, as PINNED, at 9, which is the one ANGLE of 9 .. 13 that is HEARD yet.
        for (int way = 0; way <= 2; way++) {
            x.sets(0, way);
            Check.due("wrong 0, WAY " + way + " now", x.wrong(0), 0);
        }
        x.plays(0, 1);
        Check.due("wrong 0, none is HEARD", x.wrong(0), 1);
    }

    private static void wrongOfEachSize() {
        Check.sentence("How many TICKS .. tell other KEYS (of any R, TICKS, WAY)");
        for (int r = 6; r <= 24; r++) {
            for (int ticks = 1; ticks <= r; ticks++) {
                for (int way = 0; way <= 2; way++) {
                    wrongOfOneSize(r, ticks, way);
                }
            }
        }
    }

    private static void wrongOfOneSize(int r, int ticks, int way) {
        String size = ", R " + r + ", TICKS " + ticks + ", WAY " + way;
        OrganBarrel x = new OrganBarrel();
        x.barrel(r, 1, 2);
        x.gap(0, 0);
        x.sets(0, way);
        x.ticks(0, ticks);
        x.note(0, 0, ticks / 2, 1);
        x.shift(0, r - 1);
        Check.due("pins 0" + size, x.pins(0), 1);
        Check.due("wrong 0" + size, x.wrong(0), 0);
        int holds = x.pin(0, 0, 2);
        x.sets(2, 1);
        if (holds > 1) {
            x.plays(0, holds - 1);
            Check.due("wrong 0, one ANGLE HEARD yet" + size, x.wrong(0), 0);
        }
        x.plays(0, 1);
        Check.due("wrong 0, none HEARD" + size, x.wrong(0), 1);
    }

    private static void takenOffIsNotPinned() {
        Check.sentence("NO: it is not PINNED (it was, and was taken OFF)");
        Twins twins = new Twins("rich, TUNE 0 OFF,", () -> {
            OrganBarrel x = Made.rich();
            x.off(0);
            return x;
        });
        twins.no("off 0", x -> x.off(0));
        twins.no("pin 0 0 0", x -> x.pin(0, 0, 0));
        twins.no("plays 0 1", x -> x.plays(0, 1));
        twins.no("heard 0 16", x -> x.heard(0, 16));
        twins.no("tells 0 0", x -> x.tells(0, 0));
        twins.no("tells 0 11", x -> x.tells(0, 11));
        twins.no("wrong 0", x -> x.wrong(0));
        twins.bad("tells 0 -1", x -> x.tells(0, -1));
        for (int what = 3; what <= 7; what++) {
            int asked = what;
            twins.answers("tune 0 " + what, x -> x.tune(0, asked), what == 3 ? 0 : OrganBarrel.NONE);
        }
    }
}
