/** The edges of tunes: TICKS, SHIFT, NOTES, the ANGLE of a TICK, and promises 6 to 11; each sentence has a test. */
public final class EdgesOfTunes {
    private static final Twins NEW = new Twins("new", OrganBarrel::new);
    private static final Twins RICH = new Twins("rich", Made::rich);
    private static final Twins FULL = new Twins("full", Made::full);
    private static final Twins SMALL = new Twins("small", Made::small);

    public static void main(String[] args) {
        ticksLimits();
        ticksAnswers();
        ticksLeavesShiftAndPins();
        shiftLimits();
        shiftAnswers();
        notesAsTheyCome();
        noteStartAndLength();
        noteOfOneKeyAtOneTick();
        noteRefused();
        noteFull();
        noteRefusedByTheFirstReason();
        angleCut();
        angleNearest();
        angleNext();
        dropLimits();
        dropMovesThoseBehind();
        dropMakesRoom();
        tuneLimits();
        tuneNotPinned();
        tuneAsPinned();
        noteOfLimits();
        noteOfWerePinnedNow();
        Check.end();
    }

    private static void ticksLimits() {
        Check.sentence("TICKS L (1 .. R; R at first)");
        NEW.limits("ticks, L", v -> x -> x.ticks(0, v), 1, 24);
        RICH.limits("ticks, L", v -> x -> x.ticks(1, v), 1, 18);
        FULL.limits("ticks, L", v -> x -> x.ticks(2, v), 1, 24);
        SMALL.limits("ticks, L", v -> x -> x.ticks(1, v), 1, 6);
        NEW.limits("ticks, TUNE", v -> x -> x.ticks(v, 5), 0, 2);
        RICH.limits("ticks, TUNE", v -> x -> x.ticks(v, 5), 0, 2);
        SMALL.limits("ticks, TUNE", v -> x -> x.ticks(v, 5), 0, 1);
        for (int r = 6; r <= 24; r++) {
            OrganBarrel x = new OrganBarrel();
            x.barrel(r, 1, 3);
            for (int t = 0; t < 3; t++) {
                Check.due("TICKS at first", x.tune(t, 0), r);
            }
            Check.due("ticks 1 R", x.ticks(1, r), 0);
            Check.due("ticks 1, R and 1", x.ticks(1, r + 1), OrganBarrel.BAD);
            Check.due("ticks 1 1", x.ticks(1, 1), 0);
            Check.due("TICKS", x.tune(1, 0), 1);
            Check.due("TICKS of another TUNE", x.tune(2, 0), r);
        }
    }

    private static void ticksAnswers() {
        Check.sentence("TICKS of a TUNE become l, its NOTES go .. : how many NOTES there were.");
        NEW.does("ticks 2 1, none", x -> x.ticks(2, 1), 0);
        NEW.does("ticks 2 24, as they were", x -> x.ticks(2, 24), 0);
        RICH.does("ticks 0 18", x -> x.ticks(0, 18), 2);
        FULL.does("ticks 1 7, twelve", x -> x.ticks(1, 7), 12);
        FULL.does("ticks 1 24, as they were", x -> x.ticks(1, 24), 12);
        OrganBarrel x = Made.full();
        x.ticks(1, 24);
        Check.due("NOTES are gone though TICKS are as before", x.tune(1, 1), 0);
        Check.due("NOTES of TUNE 0", x.tune(0, 1), 12);
        Check.due("NOTES of TUNE 2", x.tune(2, 1), 12);
        Check.due("the first NOTE anew", x.note(1, 5, 23, 1), 0);
    }

    private static void ticksLeavesShiftAndPins() {
        Check.sentence("(SHIFT stays, its PINS, too)");
        OrganBarrel x = Made.rich();
        x.ticks(0, 3);
        Check.due("SHIFT", x.tune(0, 2), 5);
        int[] due = {1, 12, 16, 3, 1};
        for (int what = 3; what <= 7; what++) {
            Check.due("tune 0 " + what, x.tune(0, what), due[what - 3]);
        }
        Check.due("WEAR of its PINS", x.pin(0, 2, 3), 9);
        Check.due("BEGIN of its PINS", x.pin(0, 2, 1), 4);
    }

    private static void shiftLimits() {
        Check.sentence("a SHIFT (0 .. R less 1; 0 at first)");
        NEW.limits("shift, SHIFT", v -> x -> x.shift(0, v), 0, 23);
        RICH.limits("shift, SHIFT", v -> x -> x.shift(0, v), 0, 17);
        SMALL.limits("shift, SHIFT", v -> x -> x.shift(1, v), 0, 5);
        NEW.limits("shift, TUNE", v -> x -> x.shift(v, 5), 0, 2);
        FULL.limits("shift, TUNE", v -> x -> x.shift(v, 5), 0, 2);
        SMALL.limits("shift, TUNE", v -> x -> x.shift(v, 5), 0, 1);
    }

    private static void shiftAnswers() {
        Check.sentence("SHIFT of a TUNE: what it was.");
        NEW.does("shift 2 23", x -> x.shift(2, 23), 0);
        RICH.does("shift 0 0", x -> x.shift(0, 0), 5);
        FULL.does("shift 1 0, as it was", x -> x.shift(1, 0), 0);
        OrganBarrel x = new OrganBarrel();
        for (int d = 0; d < 24; d++) {
            Check.due("shift 1 " + d, x.shift(1, d), d == 0 ? 0 : d - 1);
            x.shift(1, 24);
        }
        Check.due("SHIFT of TUNE 0", x.tune(0, 2), 0);
        Check.due("SHIFT of TUNE 1", x.tune(1, 2), 23);
        Check.due("SHIFT of TUNE 2", x.tune(2, 2), 0);
    }

    private static void notesAsTheyCome() {
        Check.sentence("NOTES 0 .. 11, as they come");
        OrganBarrel x = new OrganBarrel();
        for (int i = 0; i < 12; i++) {
            Check.due("note " + i, x.note(1, i % 4, 23 - i, 1), i);
        }
        for (int i = 0; i < 12; i++) {
            Check.due("KEY of " + i, x.noteOf(1, i, 0), i % 4);
            Check.due("START of " + i, x.noteOf(1, i, 1), 23 - i);
        }
        Check.due("a 13th", x.note(1, 0, 0, 1), OrganBarrel.FULL);
        Check.due("NOTES", x.tune(1, 1), 12);
    }

    private static void noteStartAndLength() {
        Check.sentence("START s (0 .. L less 1), LENGTH l (1 .. L less s)");
        int[] extremes = {Integer.MIN_VALUE, Integer.MIN_VALUE + 1, -24, Integer.MAX_VALUE - 1, Integer.MAX_VALUE};
        for (int ticks : new int[] {1, 2, 6, 24}) {
            for (int s = -2; s <= ticks + 1; s++) {
                for (int l = -2; l <= ticks + 2; l++) {
                    noteStartAndLength(ticks, s, l);
                }
                for (int l : extremes) {
                    noteStartAndLength(ticks, s, l);
                    noteStartAndLength(ticks, l, s);
                }
            }
        }
    }

    private static void noteStartAndLength(int ticks, int s, int l) {
        OrganBarrel x = new OrganBarrel();
        x.ticks(0, ticks);
        boolean told = s >= 0 && s < ticks && l >= 1 && l <= ticks - s;
        Check.due("note 0 0 " + s + " " + l + " of " + ticks + " TICKS", x.note(0, 0, s, l), told ? 0 : OrganBarrel.BAD);
        Check.due("how often BAD", x.told(0), told ? 0 : 1);
        Check.due("NOTES", x.tune(0, 1), told ? 1 : 0);
        if (told) {
            Check.due("START", x.noteOf(0, 0, 1), s);
            Check.due("LENGTH", x.noteOf(0, 0, 2), l);
        }
    }

    private static void noteOfOneKeyAtOneTick() {
        Check.sentence("no two of one KEY at one TICK");
        for (int s = 0; s < 6; s++) {
            for (int l = 1; l <= 6 - s; l++) {
                for (int s2 = 0; s2 < 6; s2++) {
                    for (int l2 = 1; l2 <= 6 - s2; l2++) {
                        noteOfOneKey(s, l, s2, l2);
                    }
                }
            }
        }
    }

    private static void noteOfOneKey(int s, int l, int s2, int l2) {
        OrganBarrel x = new OrganBarrel();
        x.ticks(0, 6);
        x.note(0, 1, s, l);
        boolean shared = false;
        for (int tick = s; tick < s + l; tick++) {
            shared = shared || tick >= s2 && tick < s2 + l2;
        }
        Check.due("note 0 1 " + s2 + " " + l2 + " beside " + s + " " + l, x.note(0, 1, s2, l2), shared ? OrganBarrel.NO : 1);
        Check.due("how often NO", x.told(1), shared ? 1 : 0);
        Check.due("of another KEY", x.note(0, 2, s2, l2), shared ? 1 : 2);
        Check.due("of another TUNE", x.note(1, 1, s2, l2), 0);
    }

    private static void noteRefused() {
        Check.sentence("A NOTE of a TUNE: its number. S. BAD");
        NEW.limits("note, TUNE", v -> x -> x.note(v, 0, 0, 1), 0, 2);
        RICH.limits("note, TUNE", v -> x -> x.note(v, 0, 0, 1), 0, 2);
        SMALL.limits("note, TUNE", v -> x -> x.note(v, 0, 0, 1), 0, 1);
        NEW.limits("note, KEY", v -> x -> x.note(0, v, 0, 1), 0, 3);
        RICH.limits("note, KEY", v -> x -> x.note(0, v, 0, 1), 0, 2);
        FULL.limits("note, KEY", v -> x -> x.note(0, v, 0, 1), 0, 5);
        SMALL.limits("note, KEY", v -> x -> x.note(0, v, 0, 1), 0, 0);
        RICH.limits("note, START", v -> x -> x.note(0, 1, v, 1), 0, 11);
        FULL.limits("note, START", v -> x -> x.note(0, 1, v, 1), 0, 23);
        RICH.limits("note, LENGTH", v -> x -> x.note(0, 1, 3, v), 1, 9);
        FULL.limits("note, LENGTH", v -> x -> x.note(0, 1, 3, v), 1, 21);
        SMALL.limits("note, LENGTH", v -> x -> x.note(0, 0, 5, v), 1, 1);
        NEW.does("note 2 3 23 1", x -> x.note(2, 3, 23, 1), 0);
        RICH.does("note 0 1 0 12", x -> x.note(0, 1, 0, 12), 2);
        Check.sentence("NO: another one of the KEY is at one of its TICKS");
        RICH.no("note 0 0 8 4", x -> x.note(0, 0, 8, 4));
    }

    private static void noteFull() {
        Check.sentence("FULL: 12.");
        FULL.full("note 0 0 0 1", x -> x.note(0, 0, 0, 1));
        FULL.full("note 2 5 5 8", x -> x.note(2, 5, 5, 8));
        OrganBarrel x = Made.full();
        Check.due("drop 0 11", x.drop(0, 11), 11);
        Check.due("the 12th", x.note(0, 5, 17, 7), 11);
        Check.due("the 13th", x.note(0, 0, 0, 1), OrganBarrel.FULL);
        Check.due("another TUNE is FULL by itself", x.note(1, 0, 0, 1), OrganBarrel.FULL);
        x.ticks(1, 24);
        Check.due("TUNE 1 has room", x.note(1, 0, 0, 1), 0);
        Check.due("TUNE 0 has none", x.note(0, 0, 0, 1), OrganBarrel.FULL);
    }

    private static void noteRefusedByTheFirstReason() {
        Check.sentence("the first of: BAD -2 a number is not as told; NO -3 as told; FULL -4 as told");
        RICH.bad("note 0 0 8 5: BAD and NO", x -> x.note(0, 0, 8, 5));
        FULL.bad("note 0 0 1 24: BAD, NO and FULL", x -> x.note(0, 0, 1, 24));
        FULL.bad("note 0 6 0 1: BAD and FULL", x -> x.note(0, 6, 0, 1));
        FULL.no("note 0 0 4 1: NO and FULL", x -> x.note(0, 0, 4, 1));
    }

    // ANGLES by counting on, not by a division: s times R by L is a and something, if a L is not above s R.

    private static void angleCut() {
        Check.sentence("s times R by L, 0 cut");
        for (int r = 6; r <= 24; r++) {
            for (int ticks = 1; ticks <= r; ticks++) {
                int[] angles = new int[ticks + 1];
                for (int s = 0; s <= ticks; s++) {
                    while ((angles[s] + 1) * ticks <= s * r) {
                        angles[s]++;
                    }
                }
                compareAngles(r, ticks, 0, angles);
            }
        }
    }

    private static void angleNearest() {
        Check.sentence("1 the nearest whole number (a half: the greater one)");
        for (int r = 6; r <= 24; r++) {
            for (int ticks = 1; ticks <= r; ticks++) {
                int[] angles = new int[ticks + 1];
                for (int s = 0; s <= ticks; s++) {
                    while ((angles[s] + 1) * ticks - s * r <= s * r - angles[s] * ticks) {
                        angles[s]++;
                    }
                }
                compareAngles(r, ticks, 1, angles);
            }
        }
    }

    private static void angleNext() {
        Check.sentence("2 the next whole number, if it is none");
        for (int r = 6; r <= 24; r++) {
            for (int ticks = 1; ticks <= r; ticks++) {
                int[] angles = new int[ticks + 1];
                for (int s = 0; s <= ticks; s++) {
                    while (angles[s] * ticks < s * r) {
                        angles[s]++;
                    }
                }
                compareAngles(r, ticks, 2, angles);
            }
        }
    }

    /** NOTES of one TICK and up to the last one, at each START. */
    private static void compareAngles(int r, int ticks, int way, int[] angles) {
        OrganBarrel x = new OrganBarrel();
        x.barrel(r, 2, 2);
        x.sets(0, way);
        x.ticks(0, ticks);
        x.ticks(1, ticks);
        for (int s = 0; s < ticks; s++) {
            String what = s + " of " + ticks + " TICKS, R " + r + ", WAY " + way;
            x.note(0, 0, s, 1);
            x.note(1, 1, s, ticks - s);
            Check.due("BEGIN of " + what, x.noteOf(0, 0, 3), angles[s]);
            Check.due("HOLDS of one TICK from " + what, x.noteOf(0, 0, 4), angles[s + 1] - angles[s]);
            Check.due("HOLDS up to the last from " + what, x.noteOf(1, 0, 4), r - angles[s]);
            x.drop(0, 0);
            x.drop(1, 0);
        }
    }

    private static void dropLimits() {
        Check.sentence("drop: S. BAD.");
        NEW.bad("drop 0 0, no NOTES", x -> x.drop(0, 0));
        RICH.limits("drop, NOTE", v -> x -> x.drop(0, v), 0, 1);
        RICH.limits("drop, NOTE", v -> x -> x.drop(2, v), 0, 0);
        FULL.limits("drop, NOTE", v -> x -> x.drop(1, v), 0, 11);
        RICH.limits("drop, TUNE", v -> x -> x.drop(v, 0), 0, 2);
        SMALL.bad("drop 1 0, no NOTES", x -> x.drop(1, 0));
        SMALL.bad("drop 2 0, no such TUNE", x -> x.drop(2, 0));
        RICH.does("drop 2 0, the only one", x -> x.drop(2, 0), 0);
        FULL.does("drop 2 0, the first", x -> x.drop(2, 0), 11);
        FULL.does("drop 2 11, the last", x -> x.drop(2, 11), 11);
    }

    private static void dropMovesThoseBehind() {
        Check.sentence("A NOTE goes (those behind it are one nearer): how many are left.");
        for (int gone = 0; gone < 12; gone++) {
            OrganBarrel x = new OrganBarrel();
            for (int i = 0; i < 12; i++) {
                x.note(0, i % 4, 2 * i, 1 + i % 2);
            }
            Check.due("drop 0 " + gone, x.drop(0, gone), 11);
            for (int i = 0; i < 11; i++) {
                int was = i < gone ? i : i + 1;
                Check.due("KEY of " + i, x.noteOf(0, i, 0), was % 4);
                Check.due("START of " + i, x.noteOf(0, i, 1), 2 * was);
                Check.due("LENGTH of " + i, x.noteOf(0, i, 2), 1 + was % 2);
            }
            Check.due("there is no twelfth", x.noteOf(0, 11, 0), OrganBarrel.BAD);
        }
    }

    private static void dropMakesRoom() {
        Check.sentence("A NOTE goes");
        OrganBarrel x = new OrganBarrel();
        x.note(0, 0, 3, 5);
        x.note(0, 0, 8, 1);
        Check.due("its TICKS are taken", x.note(0, 0, 7, 1), OrganBarrel.NO);
        x.drop(0, 0);
        Check.due("its TICKS are free", x.note(0, 0, 7, 1), 1);
        Check.due("those of the other are not", x.note(0, 0, 8, 1), OrganBarrel.NO);
    }

    private static void tuneLimits() {
        Check.sentence("tune: BAD.");
        NEW.limits("tune, TUNE", v -> x -> x.tune(v, 0), 0, 2);
        SMALL.limits("tune, TUNE", v -> x -> x.tune(v, 7), 0, 1);
        RICH.limits("tune, what", v -> x -> x.tune(0, v), 0, 7);
        FULL.limits("tune, what", v -> x -> x.tune(2, v), 0, 7);
        NEW.limits("tune, what, not PINNED", v -> x -> x.tune(2, v), 0, 7);
    }

    private static void tuneNotPinned() {
        Check.sentence("as PINNED (NONE: it is not)");
        for (int what = 4; what <= 7; what++) {
            int asked = what;
            NEW.answers("tune 0 " + what, x -> x.tune(0, asked), OrganBarrel.NONE);
            RICH.answers("tune 2 " + what, x -> x.tune(2, asked), OrganBarrel.NONE);
            SMALL.answers("tune 1 " + what, x -> x.tune(1, asked), OrganBarrel.NONE);
        }
        OrganBarrel x = Made.full();
        x.off(2);
        for (int what = 4; what <= 7; what++) {
            Check.due("tune 2 " + what + ", taken OFF", x.tune(2, what), OrganBarrel.NONE);
            Check.that("tune 1 " + what + " is PINNED", x.tune(1, what) != OrganBarrel.NONE);
        }
    }

    private static void tuneAsPinned() {
        Check.sentence("TICKS (0), NOTES (1), SHIFT (2), whether it is PINNED (3: 1, 0), TICKS (4), SHIFT (5), PINS (6), WAY (7)");
        int[][] due = {{12, 2, 5, 1, 12, 16, 3, 1}, {5, 1, 0, 1, 18, 0, 2, 1}, {18, 1, 0, 0, -1, -1, -1, -1}};
        for (int t = 0; t < 3; t++) {
            for (int what = 0; what <= 7; what++) {
                int tune = t;
                int asked = what;
                RICH.answers("tune " + t + " " + what, x -> x.tune(tune, asked), due[t][what]);
            }
        }
    }

    private static void noteOfLimits() {
        Check.sentence("noteOf: BAD.");
        NEW.bad("noteOf 0 0 0, no NOTES", x -> x.noteOf(0, 0, 0));
        RICH.limits("noteOf, TUNE", v -> x -> x.noteOf(v, 0, 0), 0, 2);
        RICH.limits("noteOf, NOTE: two NOTES, though three PINS", v -> x -> x.noteOf(0, v, 3), 0, 1);
        FULL.limits("noteOf, NOTE", v -> x -> x.noteOf(2, v, 4), 0, 11);
        RICH.limits("noteOf, what", v -> x -> x.noteOf(1, 0, v), 0, 4);
        SMALL.bad("noteOf 2 0 0, no such TUNE", x -> x.noteOf(2, 0, 0));
    }

    private static void noteOfWerePinnedNow() {
        Check.sentence("BEGIN (3) and ANGLES that it HOLDS (4) of its PIN, were it PINNED now");
        // TUNE 0 has 12 TICKS now and SHIFT 5, WAY 2: 6 and 9 are 9 and 13.5, so 9 .. 14; 4 and 12 are 6 and 18
        int[][] due = {{0, 6, 3, 14, 5}, {2, 4, 8, 11, 12}};
        for (int i = 0; i < 2; i++) {
            for (int what = 0; what <= 4; what++) {
                int note = i;
                int asked = what;
                RICH.answers("noteOf 0 " + i + " " + what, x -> x.noteOf(0, note, asked), due[i][what]);
            }
        }
        OrganBarrel x = Made.rich();
        x.sets(0, 0);
        Check.due("HOLDS by WAY 0", x.noteOf(0, 0, 4), 4);
        x.shift(0, 9);
        Check.due("BEGIN by SHIFT 9: round to 0", x.noteOf(0, 0, 3), 0);
        x.shift(0, 8);
        Check.due("BEGIN by SHIFT 8: the last ANGLE", x.noteOf(0, 0, 3), 17);
    }
}
