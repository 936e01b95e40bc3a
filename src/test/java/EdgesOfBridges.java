/** The edges of bridges: what hangs together, their order, WEAR, WORN, and promises 18 to 20; each sentence has a test. */
public final class EdgesOfBridges {
    private static final Twins NEW = new Twins("new", OrganBarrel::new);
    private static final Twins RICH = new Twins("rich", Made::rich);
    private static final Twins FULL = new Twins("full", Made::full);
    private static final Twins SMALL = new Twins("small", Made::small);
    private static final Twins MANY = new Twins("many", Made::many);

    public static void main(String[] args) {
        oneAlone();
        hangTogether();
        notAcrossAHole();
        notRoundTheTracks();
        onlyAlikeOnes();
        eachPinIsOfOne();
        inOrder();
        wearTogether();
        worn();
        wornOnesGone();
        notHeard();
        limitAsNow();
        allLimits();
        allOfNothing();
        allOfRich();
        allOfFull();
        allOfMany();
        pinnedTunes();
        emptyTracks();
        longestRows();
        longestRowOfAll();
        bridgeLimits();
        bridgeNone();
        bridgeAnswers();
        bridgeOfMany();
        freeLimits();
        freeAnswers();
        Check.end();
    }

    private static OrganBarrel plain(int r, int keys, int tunes) {
        OrganBarrel x = new OrganBarrel();
        x.barrel(r, keys, tunes);
        for (int k = 0; k < keys; k++) {
            x.gap(k, 0);
        }
        return x;
    }

    private static void oneAlone() {
        Check.sentence("BRIDGE: one PIN or more");
        OrganBarrel x = new OrganBarrel();
        x.note(1, 2, 23, 1);
        x.pins(1);
        int[] due = {23, 1, 7, 1, 0, 0};
        for (int what = 0; what <= 5; what++) {
            Check.due("bridge 0 " + what, x.bridge(0, what), due[what]);
            Check.due("bridge 1 " + what, x.bridge(1, what), OrganBarrel.NONE);
        }
        Check.due("BRIDGES", x.all(2), 1);
        Check.due("BRIDGES of more than one PIN", x.all(3), 0);
    }

    /** A row of PINS on TRACKS from .. to: one BRIDGE, whichever KEYS and TUNES these are of. */
    private static void hangTogether() {
        Check.sentence("ALIKE, on TRACKS one beside the other, as many as hang together so");
        for (int tunes = 2; tunes <= 3; tunes++) {
            for (int from = 0; from < 6 * tunes; from++) {
                for (int to = from; to < 6 * tunes; to++) {
                    OrganBarrel x = plain(9, 6, tunes);
                    for (int track = from; track <= to; track++) {
                        x.note(track % tunes, track / tunes, 7, 2);
                    }
                    x.settles();
                    Check.due("BRIDGES of TRACKS " + from + " to " + to, x.all(2), 1);
                    Check.due("BRIDGES of more than one PIN", x.all(3), to > from ? 1 : 0);
                    int[] due = {7, 2, from, to - from + 1, 0, 0};
                    for (int what = 0; what <= 5; what++) {
                        Check.due("bridge 0 " + what + " of TRACKS " + from + " to " + to, x.bridge(0, what), due[what]);
                    }
                }
            }
        }
    }

    private static void notAcrossAHole() {
        Check.sentence("on TRACKS one beside the other");
        for (int hole = 0; hole < 18; hole++) {
            OrganBarrel x = plain(24, 6, 3);
            for (int track = 0; track < 18; track++) {
                if (track != hole) {
                    x.note(track % 3, track / 3, 0, 24);
                }
            }
            x.settles();
            boolean inside = hole > 0 && hole < 17;
            Check.due("BRIDGES but for TRACK " + hole, x.all(2), inside ? 2 : 1);
            Check.due("the first TRACK", x.bridge(0, 2), hole == 0 ? 1 : 0);
            Check.due("its PINS", x.bridge(0, 3), inside ? hole : 17);
            Check.due("the first TRACK of the next one", x.bridge(1, 2), inside ? hole + 1 : OrganBarrel.NONE);
            Check.due("its PINS", x.bridge(1, 3), inside ? 17 - hole : OrganBarrel.NONE);
        }
    }

    private static void notRoundTheTracks() {
        Check.sentence("TRACKS x and x and 1 are NEIGHBOURS (the last and the first are not)");
        for (int tunes = 2; tunes <= 3; tunes++) {
            for (int keys = 2; keys <= 6; keys++) {
                OrganBarrel x = plain(12, keys, tunes);
                x.note(0, 0, 0, 5);
                x.note(tunes - 1, keys - 1, 0, 5);
                Check.due("settles", x.settles(), 0);
                Check.due("BRIDGES", x.all(2), 2);
                Check.due("the first TRACK of the last", x.bridge(1, 2), tunes * keys - 1);
            }
        }
    }

    private static void onlyAlikeOnes() {
        Check.sentence("one PIN or more, ALIKE");
        OrganBarrel x = plain(12, 1, 3);
        x.side(0);
        x.note(0, 0, 0, 3);
        x.note(0, 0, 6, 3);
        x.note(1, 0, 3, 3);
        x.note(1, 0, 6, 3);
        x.note(2, 0, 6, 3);
        Check.due("settles", x.settles(), 0);
        int[][] due = {{0, 0, 1}, {3, 1, 1}, {6, 0, 3}};
        Check.due("BRIDGES", x.all(2), 3);
        for (int i = 0; i < 3; i++) {
            Check.due("BEGIN of " + i, x.bridge(i, 0), due[i][0]);
            Check.due("first TRACK of " + i, x.bridge(i, 2), due[i][1]);
            Check.due("PINS of " + i, x.bridge(i, 3), due[i][2]);
        }
        // Beside one another, but not NEIGHBOURS: the same BEGIN with other HOLDS is no BRIDGE.
        OrganBarrel y = plain(12, 1, 3);
        y.note(0, 0, 4, 3);
        y.note(2, 0, 4, 2);
        y.settles();
        Check.due("BRIDGES", y.all(2), 2);
        y.ticks(2, 12);
        y.note(2, 0, 4, 3);
        y.settles();
        Check.due("BRIDGES of ALIKE ones with a TRACK between", y.all(2), 2);
        y.note(1, 0, 4, 3);
        y.settles();
        Check.due("BRIDGES with the one between", y.all(2), 1);
    }

    private static void eachPinIsOfOne() {
        Check.sentence("each PIN is of one BRIDGE");
        OrganBarrel[] made = {Made.rich(), Made.full()};
        for (OrganBarrel x : made) {
            int[] pins = new int[x.all(2)];
            for (int t = 0; t < 3; t++) {
                for (int i = 0; i < x.tune(t, 6); i++) {
                    int b = x.pin(t, i, 4);
                    Check.that("the BRIDGE of PIN " + i + " of TUNE " + t + " is one", b >= 0 && b < pins.length);
                    pins[b]++;
                    Check.due("it has the PIN's BEGIN", x.bridge(b, 0), x.pin(t, i, 1));
                    Check.due("it HOLDS as many", x.bridge(b, 1), x.pin(t, i, 2));
                }
            }
            for (int b = 0; b < pins.length; b++) {
                Check.due("PINS of BRIDGE " + b, x.bridge(b, 3), pins[b]);
            }
        }
    }

    private static void inOrder() {
        Check.sentence("they are in order by BEGIN, then by their first TRACK");
        OrganBarrel x = plain(24, 6, 3);
        x.note(2, 5, 0, 1);
        x.note(2, 0, 9, 2);
        x.note(2, 4, 9, 3);
        x.note(0, 0, 23, 1);
        x.note(0, 2, 9, 1);
        x.note(0, 5, 0, 2);
        x.note(1, 3, 22, 1);
        x.shift(0, 1);
        x.shift(1, 2);
        x.pins(0);
        x.pins(1);
        x.pins(2);
        // By SHIFT 1 what began at 23, 9, 0 begins at 0, 10, 1; by SHIFT 2 what began at 22 begins at 0.
        int[][] due = {{0, 0}, {0, 10}, {0, 17}, {1, 15}, {9, 2}, {9, 14}, {10, 6}};
        Check.due("BRIDGES", x.all(2), due.length);
        for (int i = 0; i < due.length; i++) {
            Check.due("BEGIN of BRIDGE " + i, x.bridge(i, 0), due[i][0]);
            Check.due("first TRACK of BRIDGE " + i, x.bridge(i, 2), due[i][1]);
        }
        Check.due("the BRIDGE of PIN 0 of TUNE 1", x.pin(1, 0, 4), 1);
        x.off(0);
        Check.due("the BRIDGE of PIN 0 of TUNE 1 without TUNE 0", x.pin(1, 0, 4), 0);
    }

    private static void wearTogether() {
        Check.sentence("WEAR of a BRIDGE: that of all its PINS together");
        OrganBarrel x = Made.full();
        Check.due("WEAR of BRIDGE 0: 6 PINS of TUNE 2, 3 each", x.bridge(0, 4), 18);
        x.plays(0, 1);
        Check.due("and 6 of TUNE 0, 1 each", x.bridge(0, 4), 24);
        x.plays(1, 50);
        Check.due("and 6 of TUNE 1, 50 each", x.bridge(1, 4), 324);
        x.off(1);
        // Without TUNE 1 TRACK 0 is alone, then 2 and 3 and so on, and 17 is alone.
        int[] due = {1, 4, 4, 4, 4, 4, 3};
        for (int i = 0; i < due.length; i++) {
            Check.due("WEAR of BRIDGE " + i, x.bridge(i, 4), due[i]);
            Check.due("WEAR of BRIDGE " + (7 + i), x.bridge(7 + i, 4), due[i]);
        }
        Check.due("BRIDGES", x.all(2), 14);
        Check.due("BRIDGES of more than one PIN", x.all(3), 10);
        x.pins(1);
        Check.due("together again", x.bridge(0, 4), 24);
    }

    private static void worn() {
        Check.sentence("It is WORN, if WEAR is LIMIT (1 .. 99; 20 at first) or more");
        for (int limit : new int[] {1, 2, 20, 49, 50}) {
            OrganBarrel x = new OrganBarrel();
            x.sets(2, limit);
            x.note(0, 0, 0, 5);
            x.pins(0);
            Check.due("WORN BRIDGES, not played, by LIMIT " + limit, x.all(4), 0);
            if (limit > 1) {
                Check.due("plays one less", x.plays(0, limit - 1), 0);
                Check.due("WORN BRIDGES by WEAR one less than LIMIT " + limit, x.all(4), 0);
                x.back();
            }
            Check.due("plays LIMIT", x.plays(0, limit), 1);
            Check.due("WORN BRIDGES by WEAR just LIMIT " + limit, x.all(4), 1);
        }
        OrganBarrel x = new OrganBarrel();
        x.note(0, 0, 0, 5);
        x.pins(0);
        x.sets(2, 99);
        x.plays(0, 50);
        Check.due("plays to 98", x.plays(0, 48), 0);
        Check.due("WORN at 98 by LIMIT 99", x.all(4), 0);
        Check.due("plays to 99", x.plays(0, 1), 1);
        Check.due("WORN at 99 by LIMIT 99", x.all(4), 1);
    }

    private static OrganBarrel threeWorn() {
        OrganBarrel x = new OrganBarrel();
        for (int t = 0; t < 3; t++) {
            x.note(t, t, 8 * t, 2);
            x.pins(t);
            x.plays(t, 20);
        }
        Check.due("WORN BRIDGES", x.all(4), 3);
        return x;
    }

    private static void wornOnesGone() {
        Check.sentence("WORN BRIDGES (4) (those that there are)");
        OrganBarrel x = threeWorn();
        for (int t = 2; t >= 0; t--) {
            x.off(t);
            Check.due("WORN BRIDGES, taken OFF down to " + t, x.all(4), t);
        }
        for (int left = 1; left <= 3; left++) {
            x.back();
            Check.due("WORN BRIDGES, taken back", x.all(4), left);
        }
        OrganBarrel anew = threeWorn();
        anew.pins(2);
        Check.due("WORN BRIDGES, one PINNED anew", anew.all(4), 2);
        Check.due("plays 2 19", anew.plays(2, 19), 0);
        Check.due("WORN BRIDGES, one PINNED anew and played", anew.all(4), 2);
        anew.settles();
        Check.due("WORN BRIDGES, all settled", anew.all(4), 0);
        OrganBarrel mended = threeWorn();
        mended.mends(0);
        Check.due("WORN BRIDGES, the first one mended", mended.all(4), 2);
        mended.mends(2);
        Check.due("WORN BRIDGES, the last one mended", mended.all(4), 1);
        OrganBarrel other = threeWorn();
        other.barrel(24, 4, 3);
        Check.due("WORN BRIDGES of another barrel", other.all(4), 0);
    }

    private static void notHeard() {
        Check.sentence("WEAR by LIMIT (cut) ANGLES at its end are not HEARD (all that it HOLDS at most)");
        for (int limit : new int[] {1, 2, 3, 7, 99}) {
            OrganBarrel x = new OrganBarrel();
            x.sets(2, limit);
            x.note(0, 0, 20, 3);
            x.shift(0, 2);
            x.pins(0);
            for (int wear = 1; wear <= 30; wear++) {
                int step = limit == 99 ? 33 : 1;
                x.plays(0, step);
                int lost = 0;
                while (lost < 3 && (lost + 1) * limit <= wear * step) {
                    lost++;
                }
                Check.due("ANGLES not HEARD by WEAR " + wear * step + " and LIMIT " + limit, x.bridge(0, 5), lost);
                Check.due("heard at 22", x.heard(0, 22), lost < 3 ? 1 : 0);
                Check.due("heard at 23", x.heard(0, 23), lost < 2 ? 1 : 0);
                Check.due("heard at 0", x.heard(0, 0), lost < 1 ? 1 : 0);
            }
        }
    }

    private static void limitAsNow() {
        Check.sentence("LIMIT (1 .. 99; 20 at first) (as it is now)");
        OrganBarrel x = Made.rich();
        int[][] due = {{1, 4}, {4, 4}, {5, 3}, {9, 3}, {10, 1}, {13, 1}, {14, 0}, {99, 0}};
        for (int[] d : due) {
            x.sets(2, d[0]);
            Check.due("WORN by LIMIT " + d[0], x.all(4), d[1]);
        }
        x.sets(2, 1);
        Check.due("all that the first HOLDS", x.bridge(0, 5), 2);
        Check.due("9 of 12", x.bridge(1, 5), 9);
        Check.due("all that the third HOLDS", x.bridge(2, 5), 5);
    }

    private static void allLimits() {
        Check.sentence("all: BAD.");
        for (Twins twins : new Twins[] {NEW, RICH, FULL, SMALL}) {
            twins.limits("all, what", v -> x -> x.all(v), 0, 6);
        }
    }

    private static void answers(Twins twins, int[] due) {
        for (int i = 0; i < due.length; i++) {
            int what = i;
            twins.answers("all " + what, x -> x.all(what), due[what]);
        }
    }

    private static void allOfNothing() {
        Check.sentence("(6; R, if there is no PIN)");
        answers(NEW, new int[] {0, 0, 0, 0, 0, 12, 24});
        answers(SMALL, new int[] {0, 0, 0, 0, 0, 2, 6});
    }

    private static void allOfRich() {
        Check.sentence("PINNED TUNES (0, bits), PINS (1), BRIDGES (2), BRIDGES of more than one PIN (3), WORN BRIDGES (4)");
        answers(RICH, new int[] {3, 5, 4, 1, 3, 5, 2});
    }

    private static void allOfFull() {
        Check.sentence("TRACKS on which no PIN lies (5), the longest row of ANGLES one behind the other, round, that no PIN on any "
                + "TRACK HOLDS");
        answers(FULL, new int[] {7, 36, 2, 2, 0, 0, 8});
    }

    private static void allOfMany() {
        Check.sentence("each PIN is of one BRIDGE (36 of 36)");
        answers(MANY, new int[] {7, 36, 36, 0, 12, 0, 2});
        OrganBarrel x = Made.many();
        x.sets(2, 19);
        Check.due("WORN BRIDGES", x.all(4), 24);
        x.plays(0, 19);
        Check.due("WORN BRIDGES, all", x.all(4), 36);
        x.off(2);
        Check.due("WORN BRIDGES without TUNE 2", x.all(4), 24);
        Check.due("BRIDGES without TUNE 2", x.all(2), 24);
    }

    private static void pinnedTunes() {
        Check.sentence("PINNED TUNES (0, bits), PINS (1)");
        for (int set = 0; set < 8; set++) {
            OrganBarrel x = new OrganBarrel();
            int pins = 0;
            for (int t = 0; t < 3; t++) {
                for (int k = 0; k <= t; k++) {
                    x.note(t, k, 0, 1);
                }
                if ((set >> t & 1) == 1) {
                    pins += x.pins(t);
                }
            }
            Check.due("all 0", x.all(0), set);
            Check.due("all 1", x.all(1), pins);
        }
    }

    private static void emptyTracks() {
        Check.sentence("TRACKS on which no PIN lies (5)");
        OrganBarrel x = plain(24, 6, 3);
        int due = 18;
        for (int t = 0; t < 3; t++) {
            for (int k = 0; k < 6; k++) {
                x.note(t, k, 3, 2);
                x.pins(t);
                due--;
                Check.due("all 5", x.all(5), due);
                x.note(t, k, 9, 2);
                x.pins(t);
                Check.due("all 5, two on one TRACK", x.all(5), due);
            }
        }
    }

    /** Every set of ANGLES that are held, of 7. */
    private static void longestRows() {
        Check.sentence("The longest row of ANGLES, round, of a TRACK that no PIN HOLDS");
        for (int set = 1; set < 128; set++) {
            for (int d = 0; d < 7; d += 2) {
                OrganBarrel x = plain(7, 2, 2);
                for (int a = 0; a < 7; a++) {
                    if ((set >> a & 1) == 1) {
                        x.note(1, 1, a, 1);
                    }
                }
                x.shift(1, d);
                x.pins(1);
                Check.due("free 3 by " + set, x.free(3), longest(set));
                Check.due("all 6 by " + set, x.all(6), longest(set));
                Check.due("free 2", x.free(2), 7);
            }
        }
    }

    private static int longest(int set) {
        int longest = 0;
        for (int from = 0; from < 7; from++) {
            int row = 0;
            while (row < 7 && (set >> (from + row) % 7 & 1) == 0) {
                row++;
            }
            longest = Math.max(longest, row);
        }
        return longest;
    }

    private static void longestRowOfAll() {
        Check.sentence("that no PIN on any TRACK HOLDS");
        OrganBarrel x = plain(12, 6, 3);
        x.note(0, 0, 0, 2);
        x.pins(0);
        Check.due("all 6", x.all(6), 10);
        x.note(1, 2, 5, 1);
        x.pins(1);
        Check.due("all 6: 6 .. 11", x.all(6), 6);
        x.note(2, 5, 9, 1);
        x.pins(2);
        Check.due("all 6: 2 .. 4, 6 .. 8", x.all(6), 3);
        x.note(2, 5, 11, 1);
        x.pins(2);
        Check.due("free of that TRACK: 0 .. 8", x.free(17), 9);
        x.note(2, 4, 2, 7);
        x.pins(2);
        Check.due("all 6: 10 alone", x.all(6), 1);
        x.note(2, 4, 10, 1);
        x.pins(2);
        Check.due("all 6: none", x.all(6), 0);
        Check.due("WEAR or none, it HOLDS: free 14", x.free(14), 3);
        x.sets(2, 1);
        x.plays(2, 50);
        Check.due("WORN it HOLDS yet: free 14", x.free(14), 3);
        Check.due("WORN it HOLDS yet: all 6", x.all(6), 0);
    }

    private static void bridgeLimits() {
        Check.sentence("bridge: BAD: i below 0, too.");
        for (Twins twins : new Twins[] {NEW, RICH, FULL}) {
            twins.limits("bridge, what", v -> x -> x.bridge(0, v), 0, 5);
            twins.limits("bridge, what, not so many", v -> x -> x.bridge(40, v), 0, 5);
            twins.bad("bridge -1 0", x -> x.bridge(-1, 0));
            twins.bad("bridge min 0", x -> x.bridge(Integer.MIN_VALUE, 0));
        }
    }

    private static void bridgeNone() {
        Check.sentence("NONE: not so many.");
        for (int i = 0; i <= 5; i++) {
            int what = i;
            NEW.answers("bridge 0 " + what, x -> x.bridge(0, what), OrganBarrel.NONE);
            RICH.answers("bridge 4 " + what, x -> x.bridge(4, what), OrganBarrel.NONE);
            FULL.answers("bridge 2 " + what, x -> x.bridge(2, what), OrganBarrel.NONE);
            FULL.answers("bridge max " + what, x -> x.bridge(Integer.MAX_VALUE, what), OrganBarrel.NONE);
        }
    }

    private static void bridgeAnswers() {
        Check.sentence("BEGIN (0), ANGLES that it HOLDS (1), its first TRACK (2), how many PINS (3), WEAR (4), ANGLES at its end that are "
                + "not HEARD (5)");
        int[][] rich = {{0, 2, 7, 1, 4, 0}, {4, 12, 6, 1, 9, 1}, {7, 5, 0, 2, 13, 1}, {16, 3, 0, 1, 9, 1}};
        for (int i = 0; i < rich.length; i++) {
            for (int what = 0; what <= 5; what++) {
                int bridge = i;
                int asked = what;
                RICH.answers("bridge " + i + " " + what, x -> x.bridge(bridge, asked), rich[i][what]);
            }
        }
        int[] full = {13, 4, 0, 18, 18, 0};
        for (int i = 0; i <= 5; i++) {
            int what = i;
            FULL.answers("bridge 1 " + what, x -> x.bridge(1, what), full[what]);
        }
    }

    /** By BEGIN those of TUNE 0, 1, 2, 0, 1, 2, six each. */
    private static void bridgeOfMany() {
        Check.sentence("the i-th BRIDGE (36 of them)");
        int[] wear = {0, 20, 19};
        OrganBarrel x = Made.many();
        for (int i = 0; i < 36; i++) {
            int t = i / 6 % 3;
            int k = i % 6;
            int[] due = {i / 6 * 4, 2, 3 * k + t, 1, wear[t], wear[t] / 20};
            for (int what = 0; what <= 5; what++) {
                Check.due("bridge " + i + " " + what, x.bridge(i, what), due[what]);
            }
            Check.due("the BRIDGE of its PIN", x.pin(t, 2 * k + i / 18, 4), i);
        }
        for (int i = 0; i <= 5; i++) {
            int what = i;
            MANY.answers("bridge 36 " + what, y -> y.bridge(36, what), OrganBarrel.NONE);
        }
    }

    private static void freeLimits() {
        Check.sentence("free: BAD.");
        NEW.limits("free", v -> x -> x.free(v), 0, 11);
        RICH.limits("free", v -> x -> x.free(v), 0, 8);
        FULL.limits("free", v -> x -> x.free(v), 0, 17);
        SMALL.limits("free", v -> x -> x.free(v), 0, 1);
    }

    private static void freeAnswers() {
        Check.sentence("(R: no PIN lies on it)");
        NEW.answers("free 11", x -> x.free(11), 24);
        SMALL.answers("free 1", x -> x.free(1), 6);
        int[] rich = {6, 13, 18, 18, 18, 18, 6, 16, 18};
        for (int i = 0; i < rich.length; i++) {
            int track = i;
            RICH.answers("free " + track, x -> x.free(track), rich[track]);
        }
        FULL.answers("free 17", x -> x.free(17), 8);
        OrganBarrel x = plain(24, 1, 2);
        x.note(1, 0, 0, 24);
        x.pins(1);
        Check.due("free 1, all HELD by one PIN", x.free(1), 0);
        Check.due("free 0", x.free(0), 24);
    }
}
