/** The edges of CAUSE and promise 17: what is told of each KIND, and what leaves it as it is; each sentence has a test. */
public final class EdgesOfCause {
    private static final Twins NEW = new Twins("new", OrganBarrel::new);
    private static final Twins RICH = new Twins("rich", Made::rich);
    private static final Twins FULL = new Twins("full", Made::full);

    public static void main(String[] args) {
        atFirst();
        whyLimits();
        whyAnswers();
        tooSoonHowMany();
        tooSoonLeastNote();
        tooSoonBeforeTouching();
        touchingTuneAndPin();
        touchingLeastNote();
        touchingLeastTune();
        touchingLeastPin();
        noShifts();
        noNotes();
        ofOrders();
        orderNumber();
        byACallNone();
        refusedLast();
        otherRefusalsLeaveIt();
        Check.end();
    }

    private static void atFirst() {
        Check.sentence("at first 0, 0, 0, NONE");
        Check.cause("a new object", new OrganBarrel(), 0, 0, 0, OrganBarrel.NONE);
        Check.cause("a small one", Made.small(), 0, 0, 0, OrganBarrel.NONE);
    }

    private static void whyLimits() {
        Check.sentence("BAD: -10.");
        for (int what : new int[] {Integer.MIN_VALUE, -1, 4, Integer.MAX_VALUE}) {
            NEW.badAnswers("why " + what, x -> x.why(what), -10);
            RICH.badAnswers("why " + what, x -> x.why(what), -10);
        }
    }

    private static void whyAnswers() {
        Check.sentence("CAUSE: KIND (0), FIRST (1), SECOND (2), ORDER (3)");
        int[] due = {2, 1, 2, 1};
        int[] first = {0, 0, 0, OrganBarrel.NONE};
        for (int i = 0; i < 4; i++) {
            int what = i;
            RICH.answers("why " + what, x -> x.why(what), due[what]);
            NEW.answers("why " + what, x -> x.why(what), first[what]);
        }
    }

    private static void tooSoonHowMany() {
        Check.sentence("KIND 1: not (1): .. how many ANGLES it has");
        for (int gap = 1; gap <= 6; gap++) {
            for (int free = 0; free < gap; free++) {
                OrganBarrel x = new OrganBarrel();
                x.gap(2, gap);
                x.note(0, 0, 0, 1);
                x.note(0, 2, 20, 4 - (free > 3 ? 3 : free));
                x.note(0, 2, free > 3 ? free - 3 : 0, 1);
                Check.due("pins 0", x.pins(0), OrganBarrel.NO);
                Check.cause("FREE " + free + ", round, by GAP " + gap, x, 1, 1, free, -1);
            }
        }
    }

    private static void tooSoonLeastNote() {
        Check.sentence("the least NOTE whose PIN has less than GAP FREE behind it");
        for (int first = 0; first < 12; first++) {
            // NOTES of KEY 1 have a GAP of 0, those of KEY 0 one of 2, which none of them has.
            OrganBarrel x = new OrganBarrel();
            x.gap(1, 0);
            x.gap(0, 2);
            for (int i = 0; i < 12; i++) {
                x.note(2, i < first ? 1 : 0, 22 - 2 * i, 1);
            }
            if (first == 11) {
                x.gap(0, 6);
                Check.due("pins 2, one alone has room", x.pins(2), 12);
                continue;
            }
            Check.due("pins 2", x.pins(2), OrganBarrel.NO);
            // The first of KEY 0 lies behind all others of it: its next one is the last, round.
            boolean alone = 24 - 2 * (11 - first) - 1 >= 2;
            Check.cause("NOTES of KEY 0 from " + first + " on", x, 1, alone ? first + 1 : first, 1, -1);
        }
    }

    private static void tooSoonBeforeTouching() {
        Check.sentence("2: not (2) (asked when (1) holds for all)");
        OrganBarrel x = new OrganBarrel();
        x.note(0, 0, 0, 4);
        x.pins(0);
        x.note(1, 0, 1, 4);
        x.note(1, 3, 0, 24);
        Check.due("pins 1: NOTE 0 touches, NOTE 1 has no GAP", x.pins(1), OrganBarrel.NO);
        Check.cause("(1) first", x, 1, 1, 0, -1);
        x.gap(3, 0);
        Check.due("pins 1: (1) holds for all", x.pins(1), OrganBarrel.NO);
        Check.cause("(2) then", x, 2, 0, 0, -1);
    }

    /** A TUNE with 12 PINS of KEY 0, one ANGLE each at every second one; PIN i begins at 2 i or, turned about, at 22 less 2 i. */
    private static void comb(OrganBarrel x, int tune, boolean about) {
        for (int i = 0; i < 12; i++) {
            x.note(tune, 0, about ? 22 - 2 * i : 2 * i, 1);
        }
        Check.due("pins of the comb", x.pins(tune), 12);
    }

    private static void touchingTuneAndPin() {
        Check.sentence("16 u and j");
        for (int u = 0; u <= 2; u++) {
            int t = u == 1 ? 0 : 1;
            for (int j = 0; j < 12; j++) {
                OrganBarrel x = new OrganBarrel();
                x.side(0);
                comb(x, u, j % 2 == 0);
                x.note(t, 2, 0, 1);
                x.note(t, 0, j % 2 == 0 ? 22 - 2 * j : 2 * j, 2);
                Check.due("pins " + t, x.pins(t), OrganBarrel.NO);
                Check.cause("PIN " + j + " of TUNE " + u, x, 2, 1, 16 * u + j, -1);
            }
        }
    }

    private static void touchingLeastNote() {
        Check.sentence("the least NOTE that is neither");
        OrganBarrel x = new OrganBarrel();
        x.side(0);
        x.gap(0, 0);
        comb(x, 0, false);
        x.note(1, 0, 7, 1);
        x.note(1, 1, 0, 3);
        x.note(1, 0, 18, 2);
        x.note(1, 0, 0, 2);
        Check.due("pins 1", x.pins(1), OrganBarrel.NO);
        Check.cause("NOTE 2, though NOTE 3 touches a lesser PIN", x, 2, 2, 9, -1);
        x.drop(1, 2);
        Check.due("pins 1", x.pins(1), OrganBarrel.NO);
        Check.cause("the other one", x, 2, 2, 0, -1);
        x.drop(1, 2);
        Check.due("pins 1", x.pins(1), 2);
    }

    private static void touchingLeastTune() {
        Check.sentence("the least TUNE u");
        OrganBarrel x = new OrganBarrel();
        x.side(0);
        comb(x, 2, true);
        comb(x, 0, false);
        x.note(1, 0, 22, 2);
        Check.due("pins 1", x.pins(1), OrganBarrel.NO);
        Check.cause("PIN 11 of TUNE 0, not PIN 0 of TUNE 2", x, 2, 0, 11, -1);
        x.off(0);
        Check.due("pins 1", x.pins(1), OrganBarrel.NO);
        Check.cause("PIN 0 of TUNE 2", x, 2, 0, 32, -1);
        x.off(2);
        Check.due("pins 1", x.pins(1), 1);
    }

    private static void touchingLeastPin() {
        Check.sentence("then its least PIN j to which it is neither");
        OrganBarrel x = new OrganBarrel();
        x.side(0);
        comb(x, 0, true);
        x.note(1, 0, 4, 7);
        Check.due("pins 1", x.pins(1), OrganBarrel.NO);
        Check.cause("of PINS 9, 8, 7, 6 at 4, 6, 8, 10", x, 2, 0, 6, -1);
    }

    private static void noShifts() {
        Check.sentence("3: no SHIFTS do (0, 0)");
        RICH.noBecause("settles", OrganBarrel::settles, 3, 0, 0);
    }

    private static void noNotes() {
        Check.sentence("4: there are no NOTES (0, 0)");
        NEW.noBecause("pins 2", x -> x.pins(2), 4, 0, 0);
        NEW.noBecause("settles", OrganBarrel::settles, 4, 0, 0);
        new Twins("rich, TUNE 0 without NOTES,", () -> {
            OrganBarrel x = Made.rich();
            x.ticks(0, 12);
            return x;
        }).noBecause("pins 0", x -> x.pins(0), 4, 0, 0);
    }

    private static void ofOrders() {
        Check.sentence("By ORDERS, too: 5: a number is not as told, 6: NO for other reasons, 7: FULL (0, 0 each)");
        RICH.stops("e1;e4;", 1, 5, 0, 0);
        RICH.stops("o2;", 0, 6, 0, 0);
        RICH.stops("t2 4:0 0 4,0 3 1;", 0, 6, 0, 0);
        String twelve = "t0 13:0 0 1,0 1 1,0 2 1,0 3 1,0 4 1,0 5 1,0 6 1,0 7 1,0 8 1,0 9 1,0 10 1,0 11 1";
        RICH.done(twelve + ";", 1);
        RICH.stops(twelve + ",0 12 1;", 0, 7, 0, 0);
        RICH.stops(twelve + ",0 11 1;", 0, 6, 0, 0);
        RICH.stops(twelve + ",0 12 2;", 0, 5, 0, 0);
        Check.sentence("CAUSE, of what was refused last by PINNING (pins, settles) or by an ORDER (p as pins: KINDS 1, 2, 4)");
        RICH.stops("p0;", 0, 2, 1, 17);
        RICH.stops("e0;g0 6;t1 18:0 0 2,0 4 1;p1;", 3, 1, 0, 2);
        RICH.stops("t1 3;p1;", 1, 4, 0, 0);
        RICH.stops("p3;", 0, 5, 0, 0);
    }

    private static void orderNumber() {
        Check.sentence("ORDER: its number in THE TEXT, from 0 on");
        for (int n = 0; n < 40; n++) {
            OrganBarrel x = new OrganBarrel();
            StringBuilder text = new StringBuilder();
            for (int i = 0; i < 40; i++) {
                text.append(i < n ? "e1;" : "p0;");
            }
            Check.due("reads", Check.reads(x, text.toString()), -1000 - n);
            Check.cause("ORDER " + n, x, 4, 0, 0, n);
        }
    }

    private static void byACallNone() {
        Check.sentence("NONE by a call");
        OrganBarrel x = Made.rich();
        Check.due("ORDER before", x.why(3), 1);
        x.pins(0);
        Check.cause("pins 0", x, 2, 1, 17, -1);
        Check.due("reads", Check.reads(x, "e0;e0;o2;"), -1002);
        Check.cause("o2", x, 6, 0, 0, 2);
        x.settles();
        Check.cause("settles", x, 3, 0, 0, -1);
    }

    private static void refusedLast() {
        Check.sentence("CAUSE, of what was refused last");
        OrganBarrel x = Made.rich();
        x.pins(0);
        Check.cause("pins 0", x, 2, 1, 17, -1);
        Check.due("pins 1 is done", x.pins(1), 1);
        Check.cause("what is done leaves it", x, 2, 1, 17, -1);
        x.pins(2);
        Check.cause("pins 2", x, 2, 0, 2, -1);
        Check.due("a text that is done", Check.reads(x, "p1;o1;"), 2);
        Check.cause("a text that is done leaves it", x, 2, 0, 2, -1);
        Check.due("a FAULT", Check.reads(x, "p0;x"), -13);
        Check.cause("a FAULT leaves it", x, 2, 0, 2, -1);
        x.back();
        Check.cause("back leaves it", x, 2, 0, 2, -1);
    }

    private static void otherRefusalsLeaveIt() {
        Check.sentence("by PINNING (pins, settles) or by an ORDER (no other call)");
        RICH.bad("pins 3", x -> x.pins(3));
        RICH.no("off 2", x -> x.off(2));
        RICH.no("note 0 0 8 4", x -> x.note(0, 0, 8, 4));
        FULL.full("note 0 0 0 1", x -> x.note(0, 0, 0, 1));
        FULL.full("type", x -> x.type('e'));
        RICH.no("plays 2 1", x -> x.plays(2, 1));
        RICH.no("mends 4", x -> x.mends(4));
        RICH.no("heard 2 0", x -> x.heard(2, 0));
        RICH.no("tells 2 0", x -> x.tells(2, 0));
        RICH.no("wrong 2", x -> x.wrong(2));
        RICH.no("pin 2 0 0", x -> x.pin(2, 0, 0));
        RICH.answers("fits 2, NONE", x -> x.fits(2), OrganBarrel.NONE);
    }
}
