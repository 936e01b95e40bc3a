import java.util.function.Consumer;

/** The edges of pins: BEGIN, HOLDS, FREE, ALIKE, APART, PINNED, and promises 12 to 14 and 16; each sentence has a test. */
public final class EdgesOfPins {
    private static final Twins NEW = new Twins("new", OrganBarrel::new);
    private static final Twins RICH = new Twins("rich", Made::rich);
    private static final Twins FULL = new Twins("full", Made::full);
    private static final Twins SMALL = new Twins("small", Made::small);
    private static final Consumer<OrganBarrel> NOTHING = x -> { };

    public static void main(String[] args) {
        fromAngleToAngle();
        pinIsOnItsTrack();
        beginGoesRound();
        holdsGoRound();
        freeBehind();
        freeBehindTheOnlyOne();
        freeBehindIsOfOneTrack();
        alikeOrApart();
        sameBeginIsNotApart();
        freeIsTheGapOrMore();
        gapIsOfItsKey();
        besidePinnedOthersOnly();
        ownOldPinsAreNotAsked();
        pinsAreAsThen();
        pinsStay();
        pinsStayInTheWay();
        pinnedAnew();
        pinsAnswers();
        pinsRefused();
        offAnswers();
        offRefused();
        fitsLeast();
        fitsByWay();
        fitsNone();
        fitsRefused();
        pinLimits();
        pinNo();
        pinAnswers();
        Check.end();
    }

    /** R ANGLES, TICKS as many, GAPS 0. */
    private static OrganBarrel plain(int r, int keys, int side) {
        OrganBarrel x = new OrganBarrel();
        x.barrel(r, keys, 3);
        for (int k = 0; k < keys; k++) {
            x.gap(k, 0);
        }
        x.side(side);
        return x;
    }

    private static void fromAngleToAngle() {
        Check.sentence("From ANGLE a to b it is b less a, by R left over, 0 or more.");
        for (int a = 0; a < 9; a++) {
            for (int b = 0; b < 9; b++) {
                if (a == b) {
                    continue;
                }
                int due = 0;
                for (int at = a; at != b; at = at == 8 ? 0 : at + 1) {
                    due++;
                }
                OrganBarrel x = plain(9, 1, 1);
                x.note(0, 0, a, 1);
                x.note(0, 0, b, 1);
                x.pins(0);
                Check.due("from " + a + " to " + b + ", less 1", x.pin(0, 0, 5), due - 1);
                Check.due("from " + b + " to " + a + ", less 1", x.pin(0, 1, 5), 9 - due - 1);
            }
        }
        // From an ANGLE to itself it is 0, not R: one that HOLDS all is not APART to one that begins where it does.
        OrganBarrel x = plain(9, 1, 0);
        x.note(0, 0, 4, 1);
        x.pins(0);
        x.note(1, 0, 4, 5);
        Check.due("pins 1", x.pins(1), OrganBarrel.NO);
    }

    private static void pinIsOnItsTrack() {
        Check.sentence("PIN of a NOTE: on the TRACK of its KEY and TUNE");
        OrganBarrel x = Made.large();
        for (int k = 0; k < 6; k++) {
            x.note(1, 5 - k, k, 1);
        }
        Check.due("pins 1", x.pins(1), 6);
        for (int i = 0; i < 6; i++) {
            Check.due("KEY of PIN " + i, x.pin(1, i, 0), 5 - i);
            Check.due("TRACK of PIN " + i, x.bridge(x.pin(1, i, 4), 2), 3 * (5 - i) + 1);
        }
    }

    private static void beginGoesRound() {
        Check.sentence("BEGIN: ANGLE of START, and SHIFT, by R left over");
        for (int r : new int[] {6, 7, 23, 24}) {
            for (int s = 0; s < r; s++) {
                OrganBarrel x = plain(r, 1, 1);
                x.note(0, 0, s, 1);
                for (int d = 0; d < r; d++) {
                    x.shift(0, d);
                    int due = 0;
                    for (int i = 0; i < s + d; i++) {
                        due = due + 1 == r ? 0 : due + 1;
                    }
                    Check.due("BEGIN of " + s + " by SHIFT " + d + ", R " + r, x.noteOf(0, 0, 3), due);
                    x.pins(0);
                    Check.due("BEGIN of the PIN of " + s + " by SHIFT " + d + ", R " + r, x.pin(0, 0, 1), due);
                }
            }
        }
    }

    private static void holdsGoRound() {
        Check.sentence("it HOLDS so many ANGLES from there on, round");
        for (int d = 0; d < 7; d++) {
            for (int l = 1; l <= 7; l++) {
                OrganBarrel x = plain(7, 1, 1);
                x.note(0, 0, 0, l);
                x.shift(0, d);
                x.pins(0);
                Check.due("HOLDS", x.pin(0, 0, 2), l);
                boolean[] held = new boolean[7];
                int at = d;
                for (int i = 0; i < l; i++) {
                    held[at] = true;
                    at = at == 6 ? 0 : at + 1;
                }
                for (int a = 0; a < 7; a++) {
                    Check.due("heard at " + a + " of " + l + " from " + d, x.heard(0, a), held[a] ? 1 : 0);
                }
            }
        }
    }

    private static void freeBehind() {
        Check.sentence("FREE behind a PIN: from its BEGIN to the next BEGIN on its TRACK .. , less what it HOLDS");
        for (int l = 1; l <= 6; l++) {
            for (int s2 = l; s2 < 8; s2++) {
                for (int l2 = 1; l2 <= 8 - s2; l2++) {
                    for (int d = 0; d < 8; d++) {
                        OrganBarrel x = plain(8, 1, 1);
                        x.note(1, 0, 0, l);
                        x.note(1, 0, s2, l2);
                        x.shift(1, d);
                        Check.due("pins 1", x.pins(1), 2);
                        Check.due("FREE behind 0, " + l + " before " + s2, x.pin(1, 0, 5), s2 - l);
                        Check.due("FREE behind " + s2 + ", " + l2 + ", round", x.pin(1, 1, 5), 8 - s2 - l2);
                    }
                }
            }
        }
        OrganBarrel x = plain(24, 1, 1);
        int[] starts = {20, 0, 11, 5};
        for (int s : starts) {
            x.note(0, 0, s, 2);
        }
        x.shift(0, 17);
        x.pins(0);
        int[] due = {2, 3, 7, 4};
        for (int i = 0; i < 4; i++) {
            Check.due("the next BEGIN of four, from PIN " + i, x.pin(0, i, 5), due[i]);
        }
    }

    private static void freeBehindTheOnlyOne() {
        Check.sentence("(R, if there is no other PIN on it)");
        for (int r : new int[] {6, 24}) {
            for (int l = 1; l <= r; l++) {
                OrganBarrel x = plain(r, 1, 1);
                x.note(0, 0, 0, l);
                x.shift(0, r - 1);
                x.pins(0);
                Check.due("FREE behind the only one of " + l, x.pin(0, 0, 5), r - l);
            }
        }
    }

    private static void freeBehindIsOfOneTrack() {
        Check.sentence("the next BEGIN on its TRACK");
        OrganBarrel x = plain(12, 2, 0);
        x.note(0, 0, 0, 2);
        x.note(0, 1, 3, 2);
        x.note(1, 0, 4, 2);
        x.note(2, 0, 6, 2);
        Check.due("settles", x.settles(), 0);
        Check.due("a PIN of another KEY is on another TRACK", x.pin(0, 0, 5), 10);
        Check.due("a PIN of another TUNE is on another TRACK", x.pin(1, 0, 5), 10);
    }

    /** All pairs of PINS side by side on a barrel of 7 ANGLES, by each SIDE. */
    private static void alikeOrApart() {
        Check.sentence("ALIKE, if both have the same BEGIN and HOLD as many .. APART, if both ways, from BEGIN of the one to BEGIN of "
                + "the other, it is what the one HOLDS and SIDE .. or more");
        for (int side = 0; side <= 3; side++) {
            for (int l = 1; l <= 7; l++) {
                for (int l2 = 1; l2 <= 7; l2++) {
                    for (int d = 0; d < 7; d++) {
                        alikeOrApart(side, l, l2, d);
                    }
                }
            }
        }
    }

    private static void alikeOrApart(int side, int l, int l2, int d) {
        boolean alike = d == 0 && l == l2;
        // What the one holds and SIDE ends before the other begins, and what that holds and SIDE ends before the one comes round.
        boolean apart = d != 0 && l + side <= d && d + l2 + side <= 7;
        for (int turn = 0; turn < 7; turn += 3) {
            for (int first = 0; first <= 1; first++) {
                OrganBarrel x = plain(7, 1, side);
                x.note(0, 0, 0, l);
                x.note(1, 0, 0, l2);
                x.shift(0, turn);
                x.shift(1, turn + d < 7 ? turn + d : turn + d - 7);
                Check.due("pins " + first, x.pins(first), 1);
                Check.due("pins of " + l2 + " at " + d + " beside " + l + " at 0, SIDE " + side + ", turned by " + turn,
                        x.pins(1 - first), alike || apart ? 1 : OrganBarrel.NO);
            }
        }
    }

    private static void sameBeginIsNotApart() {
        Check.sentence("and they do not have the same BEGIN");
        OrganBarrel x = plain(24, 1, 0);
        x.note(0, 0, 5, 1);
        x.note(1, 0, 5, 2);
        x.pins(0);
        Check.due("pins 1, the same BEGIN", x.pins(1), OrganBarrel.NO);
        x.shift(1, 1);
        Check.due("pins 1, one ANGLE on", x.pins(1), 1);
    }

    private static void freeIsTheGapOrMore() {
        Check.sentence("(1) each of its PINS has FREE behind it the GAP of its KEY (0 .. 6; 1 at first) or more");
        for (int gap = 0; gap <= 6; gap++) {
            for (int free = 0; free <= 8; free++) {
                OrganBarrel alone = plain(12, 2, 1);
                alone.gap(1, gap);
                alone.note(2, 1, 0, 12 - free);
                alone.shift(2, 9);
                Check.due("pins 2, FREE " + free + " by GAP " + gap, alone.pins(2), free >= gap ? 1 : OrganBarrel.NO);
                OrganBarrel two = plain(24, 2, 1);
                two.gap(1, gap);
                two.note(0, 1, 0, 3);
                two.note(0, 1, 3 + free, 3);
                two.shift(0, 20);
                Check.due("pins 0, FREE " + free + " behind the first by GAP " + gap, two.pins(0), free >= gap ? 2 : OrganBarrel.NO);
                OrganBarrel round = plain(24, 2, 1);
                round.gap(1, gap);
                round.note(0, 1, 0, 3);
                round.note(0, 1, 21 - free, 3);
                Check.due("pins 0, FREE " + free + " behind the last, round, by GAP " + gap, round.pins(0),
                        free >= gap ? 2 : OrganBarrel.NO);
            }
        }
        OrganBarrel first = new OrganBarrel();
        first.note(0, 3, 0, 24);
        Check.due("pins 0, FREE 0 by GAP 1 at first", first.pins(0), OrganBarrel.NO);
        first.ticks(0, 24);
        first.note(0, 3, 0, 23);
        Check.due("pins 0, FREE 1 by GAP 1 at first", first.pins(0), 1);
    }

    private static void gapIsOfItsKey() {
        Check.sentence("the GAP of its KEY");
        for (int k = 0; k < 6; k++) {
            OrganBarrel x = Made.large();
            for (int other = 0; other < 6; other++) {
                x.gap(other, other == k ? 0 : 6);
            }
            x.note(1, k, 0, 24);
            Check.due("pins 1 by GAP 0 of KEY " + k, x.pins(1), 1);
            x.gap(k, 1);
            x.gap(k == 5 ? 0 : k + 1, 0);
            Check.due("pins 1 by GAP 1 of KEY " + k, x.pins(1), OrganBarrel.NO);
        }
    }

    private static void besidePinnedOthersOnly() {
        Check.sentence("to each PIN of a PINNED other TUNE that lies on a NEIGHBOUR TRACK");
        OrganBarrel x = new OrganBarrel();
        x.note(0, 0, 0, 3);
        x.note(1, 0, 1, 3);
        x.note(2, 0, 2, 3);
        Check.due("pins 1: the others are not PINNED", x.pins(1), 1);
        Check.due("pins 0", x.pins(0), OrganBarrel.NO);
        Check.due("pins 2", x.pins(2), OrganBarrel.NO);
        x.off(1);
        Check.due("pins 0, that one OFF", x.pins(0), 1);
        Check.due("pins 2: TRACKS 0 and 2 are no NEIGHBOURS", x.pins(2), 1);
        Check.due("pins 1 now", x.pins(1), OrganBarrel.NO);
    }

    private static void ownOldPinsAreNotAsked() {
        Check.sentence("a PINNED other TUNE (not its own PINS of before)");
        OrganBarrel x = Made.large();
        for (int k = 0; k < 6; k++) {
            x.note(0, k, 0, 3);
        }
        x.pins(0);
        for (int d = 1; d < 24; d++) {
            x.shift(0, d);
            Check.due("pins 0 anew by SHIFT " + d, x.pins(0), 6);
        }
    }

    private static void pinsAreAsThen() {
        Check.sentence("PINNED its PINS lie there (PIN i of NOTE i) with WEAR 0, by NOTES, TICKS, SHIFT, WAY as they are then");
        OrganBarrel x = new OrganBarrel();
        x.ticks(1, 5);
        x.sets(0, 2);
        x.shift(1, 22);
        x.note(1, 3, 4, 1);
        x.note(1, 0, 1, 2);
        Check.due("pins 1", x.pins(1), 2);
        // 19.2 is 20, 4.8 is 5 and 14.4 is 15
        int[][] due = {{3, 18, 4, 0}, {0, 3, 10, 0}};
        for (int i = 0; i < 2; i++) {
            for (int what = 0; what <= 3; what++) {
                Check.due("pin 1 " + i + " " + what, x.pin(1, i, what), due[i][what]);
            }
        }
        int[] tune = {1, 5, 22, 2, 2};
        for (int what = 3; what <= 7; what++) {
            Check.due("tune 1 " + what, x.tune(1, what), tune[what - 3]);
        }
    }

    private static void pinsStay() {
        Check.sentence("they stay so, whatever these, GAP, SIDE become");
        stays("nothing", NOTHING);
        stays("note", x -> x.note(0, 1, 0, 1));
        stays("drop", x -> x.drop(0, 0));
        stays("drop of all", x -> {
            Check.due("drop 0 0", x.drop(0, 0), 1);
            Check.due("drop 0 0", x.drop(0, 0), 0);
        });
        stays("ticks", x -> x.ticks(0, 1));
        stays("ticks and other NOTES", x -> {
            x.ticks(0, 2);
            x.note(0, 2, 0, 2);
        });
        stays("shift", x -> x.shift(0, 17));
        stays("WAY", x -> x.sets(0, 0));
        stays("GAP", x -> {
            x.gap(0, 6);
            x.gap(2, 6);
        });
        stays("SIDE", x -> x.side(3));
        stays("LIMIT as it is", x -> x.sets(2, 7));
        stays("LIMIT", x -> x.sets(2, 99));
        stays("refused pins", x -> x.pins(0));
        stays("refused settles", x -> {
            x.gap(1, 6);
            x.note(1, 1, 0, 1);
            Check.due("settles", x.settles(), OrganBarrel.NO);
        });
        stays("PINNING another TUNE", x -> Check.due("pins 1", x.pins(1), 1));
        stays("another TUNE OFF", x -> Check.due("off 1", x.off(1), 2));
        stays("another TUNE played", x -> Check.due("plays 1 1", x.plays(1, 1), 1));
    }

    private static void stays(String call, Consumer<OrganBarrel> does) {
        OrganBarrel x = Made.rich();
        does.accept(x);
        int[][] pins = {{0, 16, 3, 9}, {0, 7, 5, 9}, {2, 4, 12, 9}};
        int[] free = {6, 4, 6};
        for (int i = 0; i < 3; i++) {
            for (int what = 0; what <= 3; what++) {
                Check.due("pin 0 " + i + " " + what + " behind " + call, x.pin(0, i, what), pins[i][what]);
            }
            Check.due("FREE behind PIN " + i + " behind " + call, x.pin(0, i, 5), free[i]);
        }
        int[] tune = {1, 12, 16, 3, 1};
        for (int what = 3; what <= 7; what++) {
            Check.due("tune 0 " + what + " behind " + call, x.tune(0, what), tune[what - 3]);
        }
        Check.due("tells 0 6 behind " + call, x.tells(0, 6), 5);
        Check.due("tells 0 3 behind " + call, x.tells(0, 3), 0);
    }

    private static void pinsStayInTheWay() {
        Check.sentence("they stay so .. until it is PINNED anew or taken OFF");
        OrganBarrel x = new OrganBarrel();
        x.note(0, 0, 4, 4);
        x.pins(0);
        x.ticks(0, 24);
        x.shift(0, 12);
        x.note(1, 0, 6, 1);
        Check.due("pins 1: the PIN of a NOTE that is gone lies there", x.pins(1), OrganBarrel.NO);
        Check.due("fits 1", x.fits(1), 3);
        x.note(0, 0, 4, 4);
        Check.due("pins 0 anew, elsewhere", x.pins(0), 1);
        Check.due("pins 1: it lies there no more", x.pins(1), 1);
        x.shift(0, 22);
        Check.due("pins 0: TUNE 1 is in the way now", x.pins(0), OrganBarrel.NO);
        Check.due("off 1", x.off(1), 1);
        Check.due("pins 0", x.pins(0), 1);
    }

    private static void pinnedAnew() {
        Check.sentence("A TUNE is PINNED (anew, if it is): how many PINS.");
        OrganBarrel x = Made.full();
        x.plays(1, 50);
        Check.due("WEAR", x.pin(1, 11, 3), 50);
        Check.due("pins 1 anew", x.pins(1), 12);
        for (int i = 0; i < 12; i++) {
            Check.due("WEAR of PIN " + i, x.pin(1, i, 3), 0);
        }
        Check.due("WEAR of another TUNE", x.pin(2, 0, 3), 3);
        x.ticks(1, 24);
        Check.due("pins 1 refused: no NOTES", x.pins(1), OrganBarrel.NO);
        Check.due("its PINS lie there yet", x.tune(1, 6), 12);
        x.note(1, 0, 20, 1);
        Check.due("pins 1 anew, one NOTE", x.pins(1), 1);
        Check.due("PINS", x.tune(1, 6), 1);
        Check.due("PINS of all", x.all(1), 25);
    }

    private static void pinsAnswers() {
        Check.sentence("pins: S.");
        RICH.does("pins 1", x -> x.pins(1), 1);
        FULL.does("pins 0", x -> x.pins(0), 12);
    }

    private static void pinsRefused() {
        Check.sentence("pins: BAD; NO, and CAUSE.");
        for (Twins twins : new Twins[] {NEW, RICH, FULL}) {
            twins.limits("pins, TUNE", v -> x -> x.pins(v), 0, 2);
        }
        SMALL.limits("pins, TUNE", v -> x -> x.pins(v), 0, 1);
        NEW.noBecause("pins 0", x -> x.pins(0), 4, 0, 0);
        SMALL.noBecause("pins 1", x -> x.pins(1), 4, 0, 0);
        RICH.noBecause("pins 0", x -> x.pins(0), 2, 1, 17);
        RICH.noBecause("pins 2", x -> x.pins(2), 2, 0, 2);
        Twins wide = new Twins("full, one PIN just behind another,", () -> {
            OrganBarrel x = Made.full();
            x.drop(0, 11);
            x.note(0, 3, 5, 1);
            x.gap(3, 2);
            return x;
        });
        wide.noBecause("pins 0", x -> x.pins(0), 1, 6, 0);
    }

    private static void offAnswers() {
        Check.sentence("A TUNE is taken OFF: how many PINS it had.");
        RICH.does("off 0: three PINS, though two NOTES", x -> x.off(0), 3);
        RICH.does("off 1: two PINS, though one NOTE", x -> x.off(1), 2);
        FULL.does("off 2", x -> x.off(2), 12);
        OrganBarrel x = Made.full();
        x.off(2);
        Check.due("PINNED TUNES", x.all(0), 3);
        Check.due("PINS", x.all(1), 24);
        Check.due("its NOTES stay", x.tune(2, 1), 12);
        Check.due("free of its TRACK", x.free(2), 24);
        Check.due("free of another one's", x.free(1), 8);
        Check.due("off 2 again", x.off(2), OrganBarrel.NO);
        Check.due("pins 2 again", x.pins(2), 12);
        Check.due("its WEAR is gone", x.pin(2, 0, 3), 0);
    }

    private static void offRefused() {
        Check.sentence("off: BAD; NO: it is not PINNED.");
        for (Twins twins : new Twins[] {NEW, RICH, FULL}) {
            twins.limits("off, TUNE", v -> x -> x.off(v), 0, 2);
        }
        SMALL.limits("off, TUNE", v -> x -> x.off(v), 0, 1);
        NEW.no("off 0", x -> x.off(0));
        SMALL.no("off 1", x -> x.off(1));
        RICH.no("off 2, though it has NOTES", x -> x.off(2));
    }

    private static void fitsLeast() {
        Check.sentence("The least SHIFT by which a TUNE could be PINNED now (anew, if it is)");
        RICH.answers("fits 0, not by its SHIFT nor by what is less", x -> x.fits(0), 16);
        RICH.answers("fits 1", x -> x.fits(1), 0);
        FULL.answers("fits 0", x -> x.fits(0), 0);
        for (int r : new int[] {6, 24}) {
            for (int from = 0; from < r; from++) {
                // The neighbour leaves room for one ANGLE alone, by SIDE 0.
                OrganBarrel x = plain(r, 1, 0);
                x.note(0, 0, 0, r - 1);
                x.shift(0, from);
                x.pins(0);
                x.note(1, 0, 0, 1);
                x.shift(1, r - 1);
                int due = from == 0 ? r - 1 : from - 1;
                Check.due("fits 1 beside " + from, x.fits(1), due);
                x.shift(1, due);
                Check.due("pins 1 by it", x.pins(1), 1);
                Check.due("fits 1 anew", x.fits(1), due);
                x.off(0);
                Check.due("fits 1 beside none", x.fits(1), 0);
            }
        }
    }

    /** TICK 2 of 5 goes from 9.6 to 14.4: 9 .. 13 by WAY 0, 10 .. 13 by WAY 1, 10 .. 14 by WAY 2. */
    private static void fitsByWay() {
        Check.sentence("could be PINNED now (by WAY as it is now)");
        int[][] due = {{1, OrganBarrel.NONE}, {0, 0}, {0, OrganBarrel.NONE}};
        for (int way = 0; way <= 2; way++) {
            for (int room = 5; room >= 4; room--) {
                OrganBarrel x = plain(24, 1, 0);
                x.note(0, 0, 0, 10);
                x.note(0, 0, 10 + room, 6);
                x.pins(0);
                x.ticks(1, 5);
                x.note(1, 0, 2, 1);
                x.sets(0, way);
                Check.due("fits 1 in " + room + " ANGLES from 10 on, WAY " + way, x.fits(1), due[way][5 - room]);
                Check.due("pins 1", x.pins(1), due[way][5 - room] == 0 ? 1 : OrganBarrel.NO);
            }
        }
    }

    private static void fitsNone() {
        Check.sentence("NONE: by none, or it has no NOTES.");
        NEW.answers("fits 2, no NOTES", x -> x.fits(2), OrganBarrel.NONE);
        RICH.answers("fits 2, by none", x -> x.fits(2), OrganBarrel.NONE);
        OrganBarrel x = Made.full();
        x.gap(5, 6);
        Check.due("fits 0, FREE 8 by GAP 6", x.fits(0), 0);
        x.drop(0, 0);
        x.note(0, 5, 6, 1);
        int refused = x.told(0) + x.told(1) + x.told(2);
        Check.due("fits 0, not (1)", x.fits(0), OrganBarrel.NONE);
        x.ticks(0, 24);
        Check.due("fits 0, no NOTES, though PINNED", x.fits(0), OrganBarrel.NONE);
        Check.due("NONE is no refusal", x.told(0) + x.told(1) + x.told(2), refused);
        Check.cause("fits tells no CAUSE", x, 4, 0, 0, -1);
    }

    private static void fitsRefused() {
        Check.sentence("fits: BAD.");
        for (Twins twins : new Twins[] {NEW, RICH, FULL}) {
            twins.limits("fits, TUNE", v -> x -> x.fits(v), 0, 2);
        }
        SMALL.limits("fits, TUNE", v -> x -> x.fits(v), 0, 1);
    }

    private static void pinLimits() {
        Check.sentence("pin: BAD: i below 0, too");
        RICH.limits("pin, TUNE", v -> x -> x.pin(v, 0, 0), 0, 2);
        SMALL.limits("pin, TUNE", v -> x -> x.pin(v, 0, 0), 0, 1);
        RICH.limits("pin, what", v -> x -> x.pin(0, 0, v), 0, 5);
        RICH.limits("pin, what, not PINNED", v -> x -> x.pin(2, 0, v), 0, 5);
        RICH.limits("pin, what, not so many", v -> x -> x.pin(0, 3, v), 0, 5);
        for (int i : new int[] {-1, Integer.MIN_VALUE}) {
            NEW.bad("pin 0 " + i + " 0", x -> x.pin(0, i, 0));
            RICH.bad("pin 0 " + i + " 0", x -> x.pin(0, i, 0));
            RICH.bad("pin 2 " + i + " 0, not PINNED", x -> x.pin(2, i, 0));
        }
    }

    private static void pinNo() {
        Check.sentence("pin: NO: it is not PINNED, or has not so many.");
        NEW.no("pin 0 0 0", x -> x.pin(0, 0, 0));
        RICH.no("pin 2 0 0, though it has a NOTE", x -> x.pin(2, 0, 0));
        RICH.no("pin 0 3 0", x -> x.pin(0, 3, 0));
        RICH.no("pin 1 2 0", x -> x.pin(1, 2, 0));
        RICH.no("pin 1 max 5", x -> x.pin(1, Integer.MAX_VALUE, 5));
        FULL.no("pin 2 12 3", x -> x.pin(2, 12, 3));
        FULL.answers("pin 2 11 3", x -> x.pin(2, 11, 3), 3);
    }

    private static void pinAnswers() {
        Check.sentence("KEY (0), BEGIN (1), ANGLES that it HOLDS (2), WEAR (3), the number of its BRIDGE (4), FREE behind it now (5)");
        int[][] due = {{0, 16, 3, 9, 3, 6}, {0, 7, 5, 9, 2, 4}, {2, 4, 12, 9, 1, 6}};
        for (int i = 0; i < 3; i++) {
            for (int what = 0; what <= 5; what++) {
                int pin = i;
                int asked = what;
                RICH.answers("pin 0 " + i + " " + what, x -> x.pin(0, pin, asked), due[i][what]);
            }
        }
        RICH.answers("pin 1 0 4, the BRIDGE that it shares", x -> x.pin(1, 0, 4), 2);
        RICH.answers("pin 1 1 4, the first", x -> x.pin(1, 1, 4), 0);
    }
}
