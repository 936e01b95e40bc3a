/** The edges of the barrel: R, K, T, TRACKS, NEIGHBOURS, and promises 1 to 5; each sentence of the document has a test. */
public final class EdgesOfTheBarrel {
    private static final Twins NEW = new Twins("new", OrganBarrel::new);
    private static final Twins RICH = new Twins("rich", Made::rich);
    private static final Twins FULL = new Twins("full", Made::full);
    private static final Twins SMALL = new Twins("small", Made::small);
    private static final Twins LARGE = new Twins("large", Made::large);

    public static void main(String[] args) {
        angles();
        keys();
        tunes();
        tracks();
        neighbours();
        newObject();
        barrelAnswersWhatRWas();
        barrelIsAsAtFirst();
        barrelKeepsTheRest();
        barrelBringsNothingBack();
        barrelLeavesAState();
        way();
        sideBySets();
        limit();
        whatOfSets();
        setsAnswersWhatItWas();
        gapLimits();
        gapOfEachKey();
        sideLimits();
        sideIsAsSets();
        Check.end();
    }

    private static void angles() {
        Check.sentence("R 6 .. 24; 24 at first");
        Check.due("R", new OrganBarrel().told(4), 24);
        for (Twins twins : new Twins[] {NEW, RICH, FULL, SMALL}) {
            twins.limits("barrel, R", v -> x -> x.barrel(v, 4, 3), 6, 24);
        }
        for (int r = 6; r <= 24; r++) {
            OrganBarrel x = new OrganBarrel();
            x.barrel(r, 4, 3);
            Check.due("R", x.told(4), r);
            Check.due("the last ANGLE as a SHIFT", x.shift(0, r - 1), 0);
            Check.due("one more", x.shift(0, r), OrganBarrel.BAD);
            x.note(0, 0, 0, 1);
            x.pins(0);
            Check.due("the last ANGLE is HEARD", x.heard(0, r - 1), 1);
            Check.due("there is no further one", x.heard(0, r), OrganBarrel.BAD);
        }
    }

    private static void keys() {
        Check.sentence("K KEYS (1 .. 6; 4 at first)");
        Check.due("K", new OrganBarrel().told(5), 4);
        for (Twins twins : new Twins[] {NEW, RICH, FULL, SMALL}) {
            twins.limits("barrel, K", v -> x -> x.barrel(24, v, 3), 1, 6);
        }
        for (int k = 1; k <= 6; k++) {
            OrganBarrel x = new OrganBarrel();
            x.barrel(9, k, 2);
            Check.due("K", x.told(5), k);
            Check.due("a NOTE of the last KEY", x.note(1, k - 1, 0, 1), 0);
            Check.due("a NOTE of one more", x.note(1, k, 0, 1), OrganBarrel.BAD);
            Check.due("GAP of the last KEY", x.gap(k - 1, 0), 1);
            Check.due("GAP of one more", x.gap(k, 0), OrganBarrel.BAD);
        }
    }

    private static void tunes() {
        Check.sentence("T TUNES (2 or 3; 3 at first) side by side");
        Check.due("T", new OrganBarrel().told(6), 3);
        for (Twins twins : new Twins[] {NEW, RICH, FULL, SMALL}) {
            twins.limits("barrel, T", v -> x -> x.barrel(24, 4, v), 2, 3);
        }
        for (int t = 2; t <= 3; t++) {
            OrganBarrel x = new OrganBarrel();
            x.barrel(9, 4, t);
            Check.due("T", x.told(6), t);
            Check.due("a NOTE of the last TUNE", x.note(t - 1, 0, 0, 1), 0);
            Check.due("a NOTE of one more", x.note(t, 0, 0, 1), OrganBarrel.BAD);
            Check.due("TRACKS", x.all(5), 4 * t);
        }
    }

    private static void tracks() {
        Check.sentence("TRACK T k and t is that of KEY k and TUNE t");
        for (int tunes = 2; tunes <= 3; tunes++) {
            for (int k = 0; k < 6; k++) {
                for (int t = 0; t < tunes; t++) {
                    OrganBarrel x = new OrganBarrel();
                    x.barrel(8, 6, tunes);
                    x.note(t, k, 2, 3);
                    x.pins(t);
                    Check.due("the TRACK of its BRIDGE", x.bridge(0, 2), tunes * k + t);
                    for (int track = 0; track < 6 * tunes; track++) {
                        Check.due("free " + track, x.free(track), track == tunes * k + t ? 5 : 8);
                    }
                    Check.due("one TRACK more", x.free(6 * tunes), OrganBarrel.BAD);
                }
            }
        }
    }

    /** PINS that touch, on any two TRACKS of different TUNES: refused only if one TRACK is 1 more than the other. */
    private static void neighbours() {
        Check.sentence("TRACKS x and x and 1 are NEIGHBOURS");
        for (int tunes = 2; tunes <= 3; tunes++) {
            for (int keys = 1; keys <= 6; keys++) {
                for (int a = 0; a < tunes * keys; a++) {
                    for (int b = 0; b < tunes * keys; b++) {
                        if (a % tunes != b % tunes) {
                            neighbours(tunes, keys, a, b);
                        }
                    }
                }
            }
        }
    }

    private static void neighbours(int tunes, int keys, int a, int b) {
        OrganBarrel x = new OrganBarrel();
        x.barrel(8, keys, tunes);
        x.note(a % tunes, a / tunes, 0, 3);
        x.note(b % tunes, b / tunes, 1, 3);
        Check.due("pins of TRACK " + a, x.pins(a % tunes), 1);
        boolean touch = a == b + 1 || b == a + 1;
        Check.due("pins of TRACK " + b + " beside TRACK " + a + " of " + tunes * keys, x.pins(b % tunes), touch ? OrganBarrel.NO : 1);
    }

    private static void newObject() {
        Check.sentence("As told; no NOTES.");
        OrganBarrel x = new OrganBarrel();
        int[] told = {0, 0, 0, 0, 24, 4, 3, 0, 1, 20, 0};
        for (int what = 0; what < told.length; what++) {
            Check.due("told " + what, x.told(what), told[what]);
        }
        Check.cause("a new object", x, 0, 0, 0, -1);
        int[] tune = {24, 0, 0, 0, -1, -1, -1, -1};
        for (int t = 0; t < 3; t++) {
            for (int what = 0; what < tune.length; what++) {
                Check.due("tune " + t + " " + what, x.tune(t, what), tune[what]);
            }
            Check.due("fits " + t, x.fits(t), OrganBarrel.NONE);
            Check.due("the first NOTE of " + t, x.noteOf(t, 0, 0), OrganBarrel.BAD);
        }
        Check.due("back", x.back(), OrganBarrel.NO);
        Check.due("clear", x.clear(), 0);
        for (int k = 0; k < 4; k++) {
            Check.due("GAP of KEY " + k, x.gap(k, 0), 1);
        }
    }

    private static void barrelAnswersWhatRWas() {
        Check.sentence("R, K, T; all else .. : what R was.");
        OrganBarrel x = new OrganBarrel();
        Check.due("barrel 6 1 2", x.barrel(6, 1, 2), 24);
        Check.due("barrel 6 1 2 again", x.barrel(6, 1, 2), 6);
        Check.due("barrel 24 6 3", x.barrel(24, 6, 3), 6);
        Check.due("barrel 7 6 3", x.barrel(7, 6, 3), 24);
        Check.due("barrel refused", x.barrel(7, 6, 4), OrganBarrel.BAD);
        Check.due("barrel 8 1 3", x.barrel(8, 1, 3), 7);
    }

    /** Behind barrel() of what was rich or full all that can be seen is as with a new object of which barrel() was asked. */
    private static void barrelIsAsAtFirst() {
        Check.sentence("all else but THE TEXT, CAUSE, STATES, how often refused is as at first");
        int[][] sizes = {{24, 4, 3}, {6, 1, 2}, {18, 3, 3}, {24, 6, 3}, {18, 3, 2}};
        for (int[] s : sizes) {
            OrganBarrel[] makes = {Made.rich(), Made.full()};
            for (OrganBarrel x : makes) {
                x.barrel(s[0], s[1], s[2]);
                OrganBarrel y = new OrganBarrel();
                y.barrel(s[0], s[1], s[2]);
                for (int what = 4; what <= 9; what++) {
                    Check.due("told " + what, x.told(what), y.told(what));
                }
                for (int t = 0; t < s[2]; t++) {
                    for (int what = 0; what <= 7; what++) {
                        Check.due("tune " + t + " " + what, x.tune(t, what), y.tune(t, what));
                    }
                }
                for (int what = 0; what <= 6; what++) {
                    Check.due("all " + what, x.all(what), y.all(what));
                }
                Check.due("BRIDGES", x.bridge(0, 0), OrganBarrel.NONE);
                for (int k = 0; k < s[1]; k++) {
                    Check.due("GAP of KEY " + k, x.gap(k, 0), 1);
                }
            }
        }
    }

    private static void barrelKeepsTheRest() {
        Check.sentence("but THE TEXT, CAUSE, STATES, how often refused");
        OrganBarrel x = Made.rich();
        int[] told = {x.told(0), x.told(1), x.told(2), x.told(3)};
        int[] why = {x.why(0), x.why(1), x.why(2), x.why(3)};
        x.barrel(24, 4, 3);
        for (int what = 0; what <= 3; what++) {
            Check.due("told " + what, x.told(what), told[what]);
        }
        Check.cause("barrel", x, why[0], why[1], why[2], why[3]);
        Check.due("STATES", x.told(10), 4);
        Check.due("THE TEXT is read as before: its p1 has no NOTES now", x.reads(), -1002);
        Check.due("back", x.back(), 3);
        Check.due("THE TEXT is read as before", x.reads(), 6);
    }

    private static void barrelBringsNothingBack() {
        Check.sentence("all else .. is as at first (fewer KEYS and TUNES, then more again)");
        OrganBarrel x = Made.large();
        x.gap(5, 6);
        x.ticks(2, 7);
        x.shift(2, 9);
        x.note(2, 5, 0, 1);
        x.pins(2);
        x.barrel(24, 1, 2);
        x.barrel(24, 6, 3);
        Check.due("TICKS of TUNE 2", x.tune(2, 0), 24);
        Check.due("NOTES of TUNE 2", x.tune(2, 1), 0);
        Check.due("SHIFT of TUNE 2", x.tune(2, 2), 0);
        Check.due("it is not PINNED", x.tune(2, 3), 0);
        Check.due("GAP of KEY 5", x.gap(5, 0), 1);
    }

    private static void barrelLeavesAState() {
        Check.sentence("barrel: S. BAD.");
        for (Twins twins : new Twins[] {NEW, RICH, FULL, SMALL, LARGE}) {
            twins.bad("barrel, all three wrong", x -> x.barrel(5, 0, 1));
        }
        NEW.does("barrel 24 4 3", x -> x.barrel(24, 4, 3), 24);
        RICH.does("barrel 6 1 2", x -> x.barrel(6, 1, 2), 18);
        FULL.does("barrel 6 1 2", x -> x.barrel(6, 1, 2), 24);
        SMALL.does("barrel 24 6 3", x -> x.barrel(24, 6, 3), 6);
    }

    private static void way() {
        Check.sentence("by WAY (0 .. 2; 0 at first)");
        Check.due("WAY", new OrganBarrel().told(7), 0);
        for (Twins twins : new Twins[] {NEW, RICH, FULL}) {
            twins.limits("sets, WAY", v -> x -> x.sets(0, v), 0, 2);
        }
        RICH.does("sets 0 0", x -> x.sets(0, 0), 2);
        FULL.does("sets 0 2", x -> x.sets(0, 2), 0);
    }

    private static void sideBySets() {
        Check.sentence("SIDE (0 .. 3; 1 at first)");
        Check.due("SIDE", new OrganBarrel().told(8), 1);
        for (Twins twins : new Twins[] {NEW, RICH, FULL}) {
            twins.limits("sets, SIDE", v -> x -> x.sets(1, v), 0, 3);
        }
        RICH.does("sets 1 3", x -> x.sets(1, 3), 2);
        FULL.does("sets 1 0", x -> x.sets(1, 0), 1);
    }

    private static void limit() {
        Check.sentence("LIMIT (1 .. 99; 20 at first)");
        Check.due("LIMIT", new OrganBarrel().told(9), 20);
        for (Twins twins : new Twins[] {NEW, RICH, FULL}) {
            twins.limits("sets, LIMIT", v -> x -> x.sets(2, v), 1, 99);
        }
        RICH.does("sets 2 1", x -> x.sets(2, 1), 7);
        FULL.does("sets 2 99", x -> x.sets(2, 99), 20);
    }

    private static void whatOfSets() {
        Check.sentence("WAY (what 0), SIDE (1), LIMIT (2) becomes v");
        for (Twins twins : new Twins[] {NEW, RICH, FULL}) {
            twins.limits("sets, what", v -> x -> x.sets(v, 1), 0, 2);
        }
        for (int what = 0; what <= 2; what++) {
            OrganBarrel x = new OrganBarrel();
            int[] due = {0, 1, 20};
            due[what] = 2;
            x.sets(what, 2);
            for (int i = 0; i <= 2; i++) {
                Check.due("told " + (7 + i) + " behind sets " + what + " 2", x.told(7 + i), due[i]);
            }
        }
    }

    private static void setsAnswersWhatItWas() {
        Check.sentence("sets: what it was.");
        OrganBarrel x = new OrganBarrel();
        int[][] runs = {{0, 1, 0}, {0, 2, 1}, {0, 0, 2}, {0, 0, 0}, {1, 3, 1}, {1, 0, 3}, {1, 0, 0}, {2, 1, 20}, {2, 99, 1}, {2, 99, 99}};
        for (int[] r : runs) {
            Check.due("sets " + r[0] + " " + r[1], x.sets(r[0], r[1]), r[2]);
            x.sets(r[0], -1);
        }
    }

    private static void gapLimits() {
        Check.sentence("GAP of its KEY (0 .. 6; 1 at first)");
        for (Twins twins : new Twins[] {NEW, RICH, FULL, SMALL}) {
            twins.limits("gap, GAP", v -> x -> x.gap(0, v), 0, 6);
        }
        NEW.limits("gap, KEY", v -> x -> x.gap(v, 1), 0, 3);
        RICH.limits("gap, KEY", v -> x -> x.gap(v, 1), 0, 2);
        SMALL.limits("gap, KEY", v -> x -> x.gap(v, 1), 0, 0);
        LARGE.limits("gap, KEY", v -> x -> x.gap(v, 1), 0, 5);
        RICH.does("gap 2 6", x -> x.gap(2, 6), 0);
        FULL.does("gap 5 6", x -> x.gap(5, 6), 1);
    }

    private static void gapOfEachKey() {
        Check.sentence("GAP of a KEY: what it was.");
        OrganBarrel x = Made.large();
        for (int k = 0; k < 6; k++) {
            Check.due("gap " + k, x.gap(k, k + 1), 1);
        }
        for (int k = 0; k < 6; k++) {
            Check.due("gap " + k + " again", x.gap(k, 0), k + 1);
            Check.due("gap " + k + " refused", x.gap(k, 7), OrganBarrel.BAD);
            Check.due("gap " + k + " once more", x.gap(k, 0), 0);
        }
    }

    private static void sideLimits() {
        Check.sentence("side: S. BAD.");
        for (Twins twins : new Twins[] {NEW, RICH, FULL, SMALL}) {
            twins.limits("side", v -> x -> x.side(v), 0, 3);
        }
        RICH.does("side 0", x -> x.side(0), 2);
        FULL.does("side 3", x -> x.side(3), 1);
        FULL.does("side 1, as it was", x -> x.side(1), 1);
    }

    private static void sideIsAsSets() {
        Check.sentence("SIDE becomes v: what it was (as sets(1, v)).");
        for (int v = -1; v <= 4; v++) {
            OrganBarrel x = Made.rich();
            OrganBarrel y = Made.rich();
            Check.due("side " + v, x.side(v), y.sets(1, v));
            Check.due("digest", x.digest(), y.digest());
            Check.due("SIDE", x.told(8), v < 0 || v > 3 ? 2 : v);
        }
    }
}
