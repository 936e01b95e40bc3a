import java.util.ArrayList;
import java.util.List;
import java.util.function.Supplier;
import java.util.function.ToIntFunction;

/** The edges of STATES, of what is refused, of 512 calls, and promises 29 to 31; each sentence of the document has a test. */
public final class EdgesOfStates {
    private static final Twins NEW = new Twins("new", OrganBarrel::new);
    private static final Twins SMALL = new Twins("small", Made::small);
    private static final Twins RICH = new Twins("rich", Made::rich);
    private static final Twins FULL = new Twins("full", Made::full);

    public static void main(String[] args) {
        eachCallToldS();
        noOtherCall();
        refusedLeavesNone();
        fiveAtMost();
        olderOnesLost();
        allButTextCauseAndCounts();
        gapsComeBack();
        notesComeBack();
        pinsComeBack();
        backNone();
        backAnswers();
        backLeavesNone();
        backOverABarrel();
        newerOnesBehindBack();
        firstReason();
        countsApart();
        toldLimits();
        toldAnswers();
        digestOf("new", OrganBarrel::new, 1, 1, 1, 1);
        digestOf("small", Made::small, 1);
        digestOf("rich", Made::rich, 2, 1, 0);
        digestOf("full", Made::full, 1, 1, 1, 1, 1, 1);
        digestOf("rich, of another LIMIT,", () -> {
            OrganBarrel x = Made.rich();
            x.sets(2, 2);
            return x;
        }, 2, 1, 0);
        digestChangesNothing();
        digestSeesEach();
        askedAtOnce();
        calls512Refused();
        calls512Changing();
        calls512Wearing();
        calls512WearingOneBridge();
        calls512Typing();
        Check.end();
    }

    private static void eachCallToldS() {
        Check.sentence("STATES: each call told S, if it is not refused, leaves one to go back to");
        RICH.does("barrel", x -> x.barrel(7, 2, 2), 18);
        RICH.does("sets 0", x -> x.sets(0, 1), 2);
        RICH.does("sets 1", x -> x.sets(1, 1), 2);
        RICH.does("sets 2", x -> x.sets(2, 8), 7);
        RICH.does("gap", x -> x.gap(1, 5), 1);
        RICH.does("side", x -> x.side(1), 2);
        RICH.does("ticks", x -> x.ticks(0, 6), 2);
        RICH.does("note", x -> x.note(2, 0, 0, 1), 1);
        RICH.does("drop", x -> x.drop(0, 1), 1);
        RICH.does("shift", x -> x.shift(0, 6), 5);
        RICH.does("pins", x -> x.pins(1), 1);
        RICH.does("off", x -> x.off(1), 2);
        FULL.does("settles", OrganBarrel::settles, 0);
        RICH.does("plays", x -> x.plays(0, 2), 3);
        RICH.does("mends", x -> x.mends(0), 4);
        RICH.does("reads", OrganBarrel::reads, 6);
        Check.sentence("each call told S .. leaves one (though what it sets is as it was)");
        RICH.does("barrel of a small one", x -> x.barrel(18, 3, 3), 18);
        SMALL.does("barrel as it is", x -> x.barrel(6, 1, 2), 6);
        RICH.does("sets as it is", x -> x.sets(0, 2), 2);
        RICH.does("gap as it is", x -> x.gap(0, 2), 2);
        RICH.does("side as it is", x -> x.side(2), 2);
        RICH.does("shift as it is", x -> x.shift(0, 5), 5);
        NEW.does("ticks as they are", x -> x.ticks(0, 24), 0);
        FULL.does("mends", x -> x.mends(0), 18);
    }

    private static void noOtherCall() {
        Check.sentence("each call told S (no other one)");
        List<ToIntFunction<OrganBarrel>> questions = List.of(x -> x.tune(0, 0), x -> x.noteOf(0, 0, 0), x -> x.fits(0), x -> x.pin(0, 0, 0),
                x -> x.why(0), x -> x.all(0), x -> x.bridge(0, 0), x -> x.free(0), x -> x.heard(0, 0), x -> x.tells(0, 0), x -> x.wrong(0),
                x -> x.type(' '), OrganBarrel::clear, x -> x.told(0), x -> (int) x.digest());
        for (ToIntFunction<OrganBarrel> question : questions) {
            OrganBarrel x = Made.rich();
            question.applyAsInt(x);
            Check.due("STATES", x.told(10), 3);
        }
        RICH.answers("fits 1", x -> x.fits(1), 0);
        RICH.answers("told 10", x -> x.told(10), 3);
        RICH.answers("digest", x -> {
            x.digest();
            return 0;
        }, 0);
    }

    private static void refusedLeavesNone() {
        Check.sentence("if it is not refused");
        RICH.bad("barrel", x -> x.barrel(25, 3, 3));
        RICH.bad("sets", x -> x.sets(0, 3));
        RICH.bad("gap", x -> x.gap(3, 0));
        RICH.bad("side", x -> x.side(4));
        RICH.bad("ticks", x -> x.ticks(0, 19));
        RICH.no("note", x -> x.note(0, 0, 8, 1));
        FULL.full("note", x -> x.note(0, 0, 8, 1));
        RICH.bad("drop", x -> x.drop(0, 2));
        RICH.bad("shift", x -> x.shift(0, 18));
        RICH.noBecause("pins", x -> x.pins(0), 2, 1, 17);
        RICH.no("off", x -> x.off(2));
        RICH.noBecause("settles", OrganBarrel::settles, 3, 0, 0);
        RICH.no("plays", x -> x.plays(2, 1));
        RICH.no("mends", x -> x.mends(4));
        RICH.faults("e0;e", 4);
        RICH.stops("e0;e4;", 1, 5, 0, 0);
    }

    private static void fiveAtMost() {
        Check.sentence("5 at most");
        for (int n = 0; n <= 12; n++) {
            OrganBarrel x = new OrganBarrel();
            for (int v = 1; v <= n; v++) {
                x.sets(2, v);
            }
            int states = Math.min(5, n);
            Check.due("STATES behind " + n + " calls", x.told(10), states);
            for (int i = 1; i <= states; i++) {
                Check.due("back", x.back(), states - i);
                Check.due("LIMIT", x.told(9), n - i == 0 ? 20 : n - i);
            }
            Check.due("back, none", x.back(), OrganBarrel.NO);
            Check.due("LIMIT", x.told(9), n - states == 0 ? 20 : n - states);
        }
    }

    private static void olderOnesLost() {
        Check.sentence("older ones lost");
        OrganBarrel x = new OrganBarrel();
        x.barrel(6, 1, 2);
        x.barrel(7, 2, 3);
        x.barrel(8, 3, 2);
        x.barrel(9, 4, 3);
        x.barrel(10, 5, 2);
        Check.due("the 6th", x.barrel(11, 6, 3), 10);
        int[] due = {10, 9, 8, 7, 6};
        for (int i = 0; i < 5; i++) {
            Check.due("back", x.back(), 4 - i);
            Check.due("R", x.told(4), due[i]);
        }
        Check.due("that of R 24 is lost", x.back(), OrganBarrel.NO);
        Check.due("R", x.told(4), 6);
    }

    private static void allButTextCauseAndCounts() {
        Check.sentence("(all but THE TEXT, CAUSE, how often refused)");
        OrganBarrel x = Made.rich();
        x.side(0);
        Check.due("pins 0, by SIDE 0 yet refused", x.pins(0), OrganBarrel.NO);
        Check.cause("pins 0", x, 2, 1, 17, -1);
        x.type('e');
        x.type('1');
        x.type(';');
        x.type(128);
        x.note(0, 0, 8, 1);
        Check.due("back", x.back(), 3);
        Check.due("SIDE", x.told(8), 2);
        Check.cause("back", x, 2, 1, 17, -1);
        Check.due("bytes", x.told(3), 33);
        Check.due("BAD", x.told(0), 2);
        Check.due("NO", x.told(1), 4);
        Check.due("THE TEXT is the longer one", x.reads(), 7);
        x.clear();
        Check.due("back", x.back(), 3);
        Check.due("THE TEXT is empty yet", x.told(3), 0);
        Check.due("reads", x.reads(), -10);
    }

    /** Every GAP is another one before and behind the call. */
    private static void gapsComeBack() {
        Check.sentence("leaves one to go back to (all but ..: GAPS of KEYS)");
        for (int keys = 1; keys <= 6; keys++) {
            for (int changed = 0; changed < keys; changed++) {
                OrganBarrel x = new OrganBarrel();
                x.barrel(24, keys, 2);
                for (int k = 0; k < keys; k++) {
                    x.gap(k, 6 - k);
                }
                x.gap(changed, 0);
                x.back();
                gapsAre(x, keys, "gap of KEY " + changed);
                x.barrel(24, keys, 2);
                x.back();
                gapsAre(x, keys, "barrel");
                Check.due("reads", Check.reads(x, "g" + changed + " 0;"), 1);
                x.back();
                gapsAre(x, keys, "reads, g of KEY " + changed);
                Check.due("reads", Check.reads(x, "g" + changed + " 0;g0 9;"), -1001);
                gapsAre(x, keys, "a text that is stopped behind g of KEY " + changed);
            }
        }
    }

    private static void gapsAre(OrganBarrel x, int keys, String behind) {
        for (int k = 0; k < keys; k++) {
            Check.due("GAP of KEY " + k + " of " + keys + ", back behind " + behind, x.gap(k, 6 - k), 6 - k);
        }
    }

    private static final int[][] TWELVE = {{0, 0, 1}, {3, 1, 3}, {1, 2, 5}, {2, 4, 2}, {0, 6, 4}, {3, 7, 6}, {1, 9, 7}, {2, 10, 3}, {0, 12, 2},
        {3, 15, 8}, {2, 16, 1}, {0, 17, 5}};

    /** 12 NOTES of which none has the KEY, START and LENGTH of that beside it; turned about for TUNE 1. */
    private static OrganBarrel twelve() {
        OrganBarrel x = new OrganBarrel();
        for (int i = 0; i < 12; i++) {
            Check.due("note " + i, x.note(0, TWELVE[i][0], TWELVE[i][1], TWELVE[i][2]), i);
            int[] note = TWELVE[11 - i];
            Check.due("note " + i, x.note(1, note[0], note[1], note[2]), i);
        }
        return x;
    }

    private static void twelveAre(OrganBarrel x, String behind) {
        for (int i = 0; i < 12; i++) {
            for (int what = 0; what <= 2; what++) {
                Check.due("noteOf 0 " + i + " " + what + ", back behind " + behind, x.noteOf(0, i, what), TWELVE[i][what]);
                Check.due("noteOf 1 " + i + " " + what + ", back behind " + behind, x.noteOf(1, i, what), TWELVE[11 - i][what]);
            }
        }
    }

    private static void notesComeBack() {
        Check.sentence("leaves one to go back to (all but ..: NOTES)");
        OrganBarrel x = twelve();
        for (int t = 0; t <= 1; t++) {
            x.ticks(t, 24);
            for (int i = 11; i >= 9; i--) {
                x.note(t, 3 - i % 4, 23 - i, 1);
            }
            for (int i = 0; i < 4; i++) {
                x.back();
            }
            twelveAre(x, "ticks and other NOTES of TUNE " + t);
        }
        OrganBarrel y = twelve();
        for (int i = 0; i < 12; i += 3) {
            y.drop(0, i);
            y.drop(1, 11 - i);
            y.back();
            y.back();
        }
        twelveAre(y, "drop");
    }

    private static void pinsComeBack() {
        Check.sentence("leaves one to go back to (all but ..: PINS and their WEAR)");
        OrganBarrel x = twelve();
        x.ticks(1, 24);
        Check.due("pins 0", x.pins(0), 12);
        // PIN i has WEAR 12 less i: what is mended anew each time has been played so much more seldom.
        for (int i = 0; i < 12; i++) {
            x.mends(x.pin(0, i, 4));
            x.plays(0, 1);
        }
        x.off(0);
        Check.due("back behind off", x.back(), 4);
        wornTwelve(x, "off");
        x.shift(0, 5);
        x.sets(0, 2);
        Check.due("pins 0 anew", x.pins(0), 12);
        x.back();
        wornTwelve(x, "pins");
        x.mends(7);
        x.plays(0, 50);
        x.back();
        x.back();
        wornTwelve(x, "mends and plays");
        x.barrel(6, 1, 2);
        x.back();
        wornTwelve(x, "barrel");
        Check.due("settles", x.settles(), 0);
        x.back();
        wornTwelve(x, "settles");
    }

    private static void wornTwelve(OrganBarrel x, String behind) {
        for (int i = 0; i < 12; i++) {
            int[] due = {TWELVE[i][0], TWELVE[i][1], TWELVE[i][2], 12 - i};
            for (int what = 0; what <= 3; what++) {
                Check.due("pin 0 " + i + " " + what + ", back behind " + behind, x.pin(0, i, what), due[what]);
            }
        }
    }

    private static void backNone() {
        Check.sentence("back: NO: none.");
        NEW.no("back", OrganBarrel::back);
        new Twins("rich, all the way back,", () -> {
            OrganBarrel x = Made.rich();
            x.back();
            x.back();
            x.back();
            return x;
        }).no("back", OrganBarrel::back);
    }

    private static void backAnswers() {
        Check.sentence("A STATE back: how many can be yet.");
        OrganBarrel x = Made.full();
        for (int left = 4; left >= 0; left--) {
            Check.due("back", x.back(), left);
            Check.due("STATES", x.told(10), left);
        }
        Check.due("back", x.back(), OrganBarrel.NO);
        Check.due("STATES", x.told(10), 0);
    }

    private static void backLeavesNone() {
        Check.sentence("back (not told S)");
        OrganBarrel x = new OrganBarrel();
        x.side(2);
        x.side(3);
        Check.due("back", x.back(), 1);
        Check.due("back goes further back", x.back(), 0);
        Check.due("SIDE", x.told(8), 1);
        Check.due("there is no way on again", x.back(), OrganBarrel.NO);
        Check.due("SIDE", x.told(8), 1);
    }

    /** What is asked at once behind a barrel of other ANGLES, and behind going back over it, is by the ANGLES as they are then. */
    private static void backOverABarrel() {
        Check.sentence("R, K, T (as they are now)");
        for (int r = 6; r < 24; r++) {
            OrganBarrel x = new OrganBarrel();
            x.ticks(0, 5);
            x.note(0, 0, 3, 2);
            x.shift(0, 23);
            x.pins(0);
            playsAsToldFrom(x, "24 ANGLES", 13, 10);
            x.barrel(r, 1, 2);
            x.ticks(0, 5);
            x.note(0, 0, 3, 1);
            x.pins(0);
            playsAsToldFrom(x, r + " ANGLES", 3 * r / 5, 4 * r / 5 - 3 * r / 5);
            for (int left = 4; left >= 1; left--) {
                Check.due("back", x.back(), left);
            }
            playsAsToldFrom(x, "24 ANGLES again", 13, 10);
        }
    }

    private static void playsAsToldFrom(OrganBarrel x, String when, int begin, int holds) {
        Check.due("wrong 0, " + when, x.wrong(0), 0);
        Check.due("tells 0 2, " + when, x.tells(0, 2), 0);
        Check.due("tells 0 3, " + when, x.tells(0, 3), 1);
        Check.due("heard 0, the first ANGLE, " + when, x.heard(0, begin), 1);
        Check.due("heard 0, the last ANGLE, " + when, x.heard(0, begin + holds - 1), 1);
        Check.due("free 0, " + when, x.free(0), x.told(4) - holds);
        Check.due("all 6, " + when, x.all(6), x.told(4) - holds);
    }

    private static void newerOnesBehindBack() {
        Check.sentence("leaves one to go back to (behind a call back)");
        OrganBarrel x = new OrganBarrel();
        for (int v = 1; v <= 5; v++) {
            x.sets(2, v);
        }
        x.back();
        x.back();
        Check.due("LIMIT", x.told(9), 3);
        x.sets(2, 70);
        x.sets(2, 80);
        x.sets(2, 90);
        Check.due("STATES", x.told(10), 5);
        int[] due = {80, 70, 3, 2, 1};
        for (int i = 0; i < 5; i++) {
            Check.due("back", x.back(), 4 - i);
            Check.due("LIMIT", x.told(9), due[i]);
        }
    }

    private static void firstReason() {
        Check.sentence("Refused, changing nothing but how often (and CAUSE, where told), the first of: BAD -2 a number is not as told; "
                + "NO -3 as told; FULL -4 as told.");
        FULL.bad("note: BAD, NO, FULL", x -> x.note(0, 0, 4, 21));
        FULL.no("note: NO, FULL", x -> x.note(0, 0, 4, 20));
        FULL.full("note: FULL", x -> x.note(0, 0, 5, 8));
        FULL.bad("type: BAD, FULL", x -> x.type(-1));
        RICH.bad("pin: BAD, NO", x -> x.pin(2, 0, 6));
        RICH.bad("plays: BAD, NO", x -> x.plays(2, 51));
        RICH.bad("heard: BAD, NO", x -> x.heard(2, 18));
        RICH.bad("tells: BAD, NO", x -> x.tells(2, -1));
        NEW.bad("mends: BAD, NO", x -> x.mends(-1));
        NEW.bad("off: BAD, NO", x -> x.off(3));
        NEW.bad("wrong: BAD, NO", x -> x.wrong(-1));
        NEW.bad("pins: BAD, NO", x -> x.pins(3));
    }

    private static void countsApart() {
        Check.sentence("How often refused: BAD (0), NO (1), FULL (2)");
        OrganBarrel x = Made.full();
        for (int i = 1; i <= 9; i++) {
            x.shift(3, 0);
            Check.due("BAD", x.told(0), 1 + i);
            if (i % 2 == 0) {
                x.mends(2);
            }
            Check.due("NO", x.told(1), 1 + i / 2);
            if (i % 3 == 0) {
                x.type(0);
            }
            Check.due("FULL", x.told(2), 1 + i / 3);
        }
    }

    private static void toldLimits() {
        Check.sentence("told: BAD.");
        for (Twins twins : new Twins[] {NEW, RICH, FULL}) {
            twins.limits("told, what", v -> x -> x.told(v), 0, 10);
        }
        OrganBarrel x = new OrganBarrel();
        Check.due("told 11", x.told(11), OrganBarrel.BAD);
        Check.due("it counts", x.told(0), 1);
    }

    private static void toldAnswers() {
        Check.sentence("bytes of THE TEXT (3), R (4), K (5), T (6), WAY (7), SIDE (8), LIMIT (9), STATES (10)");
        int[] rich = {1, 2, 0, 30, 18, 3, 3, 2, 2, 7, 3};
        int[] full = {1, 1, 1, 120, 24, 6, 3, 0, 1, 20, 5};
        int[] small = {0, 0, 0, 0, 6, 1, 2, 0, 1, 20, 1};
        for (int i = 0; i <= 10; i++) {
            int what = i;
            RICH.answers("told " + what, x -> x.told(what), rich[what]);
            FULL.answers("told " + what, x -> x.told(what), full[what]);
            SMALL.answers("told " + what, x -> x.told(what), small[what]);
        }
    }

    /** What is asked comes from objects of their own, so that none comes to its 512th call. */
    private static void digestOf(String name, Supplier<OrganBarrel> makes, int... gaps) {
        Check.sentence("h = 2243; then h = 31 h + v for each v: told(0) to told(10); why(0) to why(3); GAPS of KEYS; TUNE by TUNE tune(0) "
                + "to tune(7), of its NOTES noteOf(0) to noteOf(4); all(0) to all(6); of BRIDGES bridge(0) to bridge(5).");
        List<Integer> values = new ArrayList<>();
        OrganBarrel x = makes.get();
        for (int what = 0; what <= 10; what++) {
            values.add(x.told(what));
        }
        for (int what = 0; what <= 3; what++) {
            values.add(x.why(what));
        }
        for (int gap : gaps) {
            values.add(gap);
        }
        for (int t = 0; t < x.told(6); t++) {
            for (int what = 0; what <= 7; what++) {
                values.add(x.tune(t, what));
            }
            for (int i = 0; i < x.tune(t, 1); i++) {
                for (int what = 0; what <= 4; what++) {
                    values.add(x.noteOf(t, i, what));
                }
            }
        }
        OrganBarrel y = makes.get();
        for (int what = 0; what <= 6; what++) {
            values.add(y.all(what));
        }
        for (int i = 0; i < y.all(2); i++) {
            for (int what = 0; what <= 5; what++) {
                values.add(y.bridge(i, what));
            }
        }
        long h = 2243;
        for (int v : values) {
            h = 31 * h + v;
        }
        Check.due("digest of a " + name + " one", makes.get().digest(), h);
        Check.due("digest of the one that was asked", x.digest(), h);
    }

    private static void digestChangesNothing() {
        Check.sentence("long digest()");
        OrganBarrel[] made = {new OrganBarrel(), Made.small(), Made.rich(), Made.full(), Made.many()};
        int[] bad = {0, 0, 1, 1, 0};
        for (int i = 0; i < made.length; i++) {
            OrganBarrel x = made[i];
            long first = x.digest();
            Check.due("digest again", x.digest(), first);
            Check.due("how often refused stays", x.told(0), bad[i]);
        }
    }

    /** Each v is in it: what changes one of them alone changes the digest. */
    private static void digestSeesEach() {
        Check.sentence("for each v");
        List<ToIntFunction<OrganBarrel>> changes = List.of(x -> x.told(11), OrganBarrel::clear, x -> x.type(' '), x -> x.sets(0, 1),
                x -> x.side(3), x -> x.sets(2, 6), x -> x.gap(0, 0), x -> x.gap(2, 1), x -> x.ticks(2, 17), x -> x.drop(0, 0),
                x -> x.shift(2, 1), x -> x.off(0), x -> x.off(2), x -> x.pins(0), x -> x.plays(0, 1), x -> x.mends(0), OrganBarrel::back);
        List<Long> seen = new ArrayList<>();
        seen.add(Made.rich().digest());
        for (int i = 0; i < changes.size(); i++) {
            OrganBarrel x = Made.rich();
            changes.get(i).applyAsInt(x);
            long h = x.digest();
            Check.that("the digest behind change " + i + " is another one", !seen.contains(h));
            seen.add(h);
        }
    }

    /** Answers are of what is now, whether or not anything was asked since it changed. */
    private static void askedAtOnce() {
        Check.sentence("Nothing is promised beyond the answers and state changes described above");
        List<ToIntFunction<OrganBarrel>> changes = List.of(x -> x.off(0), x -> x.off(1), x -> x.pins(1), x -> x.sets(2, 1), OrganBarrel::back,
                x -> x.barrel(18, 3, 3), x -> x.plays(0, 30), x -> x.mends(2), OrganBarrel::reads);
        List<ToIntFunction<OrganBarrel>> questions = new ArrayList<>(List.of(x -> (int) x.digest(), x -> x.wrong(0), x -> x.wrong(1)));
        for (int i = 0; i <= 6; i++) {
            int what = i;
            questions.add(x -> x.all(what));
            questions.add(x -> x.bridge(what < 4 ? what : 0, 5));
            questions.add(x -> x.pin(what % 2, what / 4, 4));
        }
        for (int i = 0; i < 18; i++) {
            int at = i;
            questions.add(x -> x.heard(0, at));
            questions.add(x -> x.heard(1, at));
            questions.add(x -> x.tells(0, at));
            questions.add(x -> x.tells(1, at));
        }
        for (int c = 0; c < changes.size(); c++) {
            for (int q = 0; q < questions.size(); q++) {
                OrganBarrel x = Made.rich();
                x.all(2);
                changes.get(c).applyAsInt(x);
                OrganBarrel y = Made.rich();
                changes.get(c).applyAsInt(y);
                y.all(2);
                Check.due("question " + q + " behind change " + c, questions.get(q).applyAsInt(x), questions.get(q).applyAsInt(y));
            }
        }
    }

    private static void calls512Refused() {
        Check.sentence("An object is used for at most 512 calls after it has been made");
        OrganBarrel x = new OrganBarrel();
        for (int i = 0; i < 511; i++) {
            Check.due("told 11", x.told(11), OrganBarrel.BAD);
        }
        Check.due("the 512th: BAD", x.told(0), 511);
        OrganBarrel y = new OrganBarrel();
        for (int i = 0; i < 511; i++) {
            Check.due("back", y.back(), OrganBarrel.NO);
        }
        Check.due("the 512th: NO", y.told(1), 511);
    }

    private static void calls512Changing() {
        Check.sentence("at most 512 calls (all told S)");
        OrganBarrel x = new OrganBarrel();
        int was = 20;
        for (int i = 0; i < 506; i++) {
            int v = 1 + i % 99;
            Check.due("sets 2 " + v, x.sets(2, v), was);
            was = v;
        }
        for (int left = 4; left >= 0; left--) {
            Check.due("back", x.back(), left);
        }
        Check.due("the 512th: LIMIT", x.told(9), 1 + 500 % 99);
    }

    private static void calls512Wearing() {
        Check.sentence("at most 512 calls (WEAR)");
        OrganBarrel x = new OrganBarrel();
        x.note(0, 0, 0, 23);
        x.pins(0);
        for (int i = 0; i < 508; i++) {
            Check.due("plays 0 50", x.plays(0, 50), 1);
        }
        Check.due("WEAR", x.pin(0, 0, 3), 25400);
        Check.due("the 512th: ANGLES not HEARD", x.bridge(0, 5), 23);
    }

    /** 18 PINS of one BRIDGE: it wears by 300 each time, which comes to more than 16 bits tell, and more than 17. */
    private static void calls512WearingOneBridge() {
        Check.sentence("WEAR of a BRIDGE: that of all its PINS together (at most 512 calls)");
        OrganBarrel x = Made.large();
        for (int track = 0; track < 18; track++) {
            x.note(track % 3, track / 3, 3, 20);
        }
        Check.due("settles", x.settles(), 0);
        int calls = 1 + 18 + 1;
        int wear = 0;
        while (calls < 510) {
            Check.due("plays", x.plays(calls % 3, 50), 1);
            wear += 300;
            calls++;
        }
        Check.due("WEAR", x.bridge(0, 4), 147_000);
        Check.due("the 512th: what mends answers", x.mends(0), wear);
    }

    private static void calls512Typing() {
        Check.sentence("at most 512 calls (THE TEXT)");
        OrganBarrel x = new OrganBarrel();
        for (int i = 0; i < 500; i++) {
            Check.due("type", x.type(' '), i < 120 ? i + 1 : OrganBarrel.FULL);
        }
        Check.due("FULL", x.told(2), 380);
        Check.due("clear", x.clear(), 120);
        Check.due("reads", Check.reads(x, "e3;"), 1);
        Check.due("SIDE", x.told(8), 3);
        Check.due("back", x.back(), 0);
        Check.due("SIDE", x.told(8), 1);
        Check.due("the 511th: bytes", x.told(3), 3);
    }
}
