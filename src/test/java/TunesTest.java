/** Promises 6 to 11: ticks, note, drop, shift, tune, noteOf. */
public final class TunesTest {
    public static void main(String[] args) {
        ticks();
        note();
        noteFull();
        drop();
        shift();
        tune();
        noteOf();
        anglesByWay();
        Check.end();
    }

    private static void ticks() {
        OrganBarrel x = new OrganBarrel();
        Check.due("ticks 0 1", x.ticks(0, 1), 0);
        Check.due("ticks 0 24", x.ticks(0, 24), 0);
        x.note(0, 0, 0, 1);
        x.note(0, 1, 0, 1);
        x.shift(0, 5);
        x.pins(0);
        Check.due("ticks 0 8", x.ticks(0, 8), 2);
        Check.due("its NOTES go", x.tune(0, 1), 0);
        Check.due("SHIFT stays", x.tune(0, 2), 5);
        Check.due("its PINS stay", x.tune(0, 6), 2);
        Check.due("another TUNE's TICKS", x.tune(1, 0), 24);
        Check.due("back", x.back(), 4);
        Check.due("TICKS are back", x.tune(0, 0), 24);
        Check.due("NOTES are back", x.tune(0, 1), 2);
        int[][] bad = {{-1, 8}, {3, 8}, {0, 0}, {0, 25}, {0, -1}};
        for (int[] b : bad) {
            Check.refused("ticks " + b[0] + " " + b[1], x, () -> x.ticks(b[0], b[1]), OrganBarrel.BAD);
        }
        x.barrel(10, 2, 2);
        Check.refused("ticks 0 11 of 10 ANGLES", x, () -> x.ticks(0, 11), OrganBarrel.BAD);
        Check.refused("ticks 2 5 of 2 TUNES", x, () -> x.ticks(2, 5), OrganBarrel.BAD);
    }

    private static void note() {
        OrganBarrel x = new OrganBarrel();
        x.ticks(0, 8);
        Check.due("note 0 0 2 3", x.note(0, 0, 2, 3), 0);
        Check.due("note 0 0 0 2, up to it", x.note(0, 0, 0, 2), 1);
        Check.due("note 0 0 5 3, behind it", x.note(0, 0, 5, 3), 2);
        Check.due("note 0 1 0 8, of another KEY", x.note(0, 1, 0, 8), 3);
        Check.due("note 1 0 2 3, of another TUNE", x.note(1, 0, 2, 3), 0);
        int[][] no = {{0, 0, 0, 1}, {0, 0, 1, 2}, {0, 0, 0, 8}, {0, 0, 4, 1}, {0, 1, 7, 1}};
        for (int[] n : no) {
            Check.refused("note of a KEY that is there", x, () -> x.note(n[0], n[1], n[2], n[3]), OrganBarrel.NO);
        }
        int[][] bad = {{-1, 2, 0, 1}, {3, 2, 0, 1}, {0, -1, 0, 1}, {0, 4, 0, 1}, {0, 2, -1, 1}, {0, 2, 8, 1},
            {0, 2, 0, 0}, {0, 2, 0, 9}, {0, 2, 7, 2}, {0, 2, 0, -1}, {0, 2, 3, Integer.MAX_VALUE},
            {0, 2, Integer.MIN_VALUE, 1}, {0, 0, 2, 7}};
        for (int[] b : bad) {
            Check.refused("note not as told", x, () -> x.note(b[0], b[1], b[2], b[3]), OrganBarrel.BAD);
        }
        Check.cause("note refused by a call", x, 0, 0, 0, -1);
        Check.due("STATES", x.told(10), 5);
    }

    private static void noteFull() {
        OrganBarrel x = new OrganBarrel();
        for (int i = 0; i < 12; i++) {
            Check.due("note " + i, x.note(2, 0, 2 * i, 1), i);
        }
        Check.refused("a 13th note", x, () -> x.note(2, 0, 1, 1), OrganBarrel.FULL);
        Check.refused("a 13th note where one is", x, () -> x.note(2, 0, 2, 1), OrganBarrel.NO);
        Check.refused("a 13th note not as told", x, () -> x.note(2, 0, 24, 1), OrganBarrel.BAD);
        Check.due("drop 2 11", x.drop(2, 11), 11);
        Check.due("the 12th anew", x.note(2, 3, 0, 24), 11);
    }

    private static void drop() {
        OrganBarrel x = new OrganBarrel();
        x.note(1, 0, 0, 1);
        x.note(1, 1, 1, 2);
        x.note(1, 2, 2, 3);
        x.pins(1);
        Check.due("drop 1 1", x.drop(1, 1), 2);
        Check.due("the one behind is one nearer: KEY", x.noteOf(1, 1, 0), 2);
        Check.due("START", x.noteOf(1, 1, 1), 2);
        Check.due("LENGTH", x.noteOf(1, 1, 2), 3);
        Check.due("the one before stays", x.noteOf(1, 0, 0), 0);
        Check.due("PINS stay", x.tune(1, 6), 3);
        int[][] bad = {{1, 2}, {1, -1}, {0, 0}, {-1, 0}, {3, 0}};
        for (int[] b : bad) {
            Check.refused("drop " + b[0] + " " + b[1], x, () -> x.drop(b[0], b[1]), OrganBarrel.BAD);
        }
        Check.due("drop 1 0", x.drop(1, 0), 1);
        Check.due("drop 1 0, the last", x.drop(1, 0), 0);
        Check.due("back", x.back(), 4);
        Check.due("it is there again", x.noteOf(1, 0, 0), 2);
    }

    private static void shift() {
        OrganBarrel x = new OrganBarrel();
        x.note(2, 0, 20, 1);
        x.pins(2);
        Check.due("shift 2 23", x.shift(2, 23), 0);
        Check.due("shift 2 7", x.shift(2, 7), 23);
        Check.due("BEGIN goes round", x.noteOf(2, 0, 3), 3);
        Check.due("PINS stay", x.pin(2, 0, 1), 20);
        Check.due("SHIFT as PINNED stays", x.tune(2, 5), 0);
        int[][] bad = {{-1, 0}, {3, 0}, {0, -1}, {0, 24}};
        for (int[] b : bad) {
            Check.refused("shift " + b[0] + " " + b[1], x, () -> x.shift(b[0], b[1]), OrganBarrel.BAD);
        }
        Check.due("back", x.back(), 3);
        Check.due("SHIFT is back", x.tune(2, 2), 23);
    }

    private static void tune() {
        OrganBarrel x = new OrganBarrel();
        x.ticks(1, 6);
        x.sets(0, 1);
        x.shift(1, 3);
        x.note(1, 0, 0, 1);
        x.note(1, 1, 2, 1);
        x.pins(1);
        x.ticks(1, 5);
        x.sets(0, 2);
        x.shift(1, 4);
        x.note(1, 0, 0, 1);
        int[] due = {5, 1, 4, 1, 6, 3, 2, 1};
        for (int what = 0; what < due.length; what++) {
            Check.due("tune 1 " + what, x.tune(1, what), due[what]);
        }
        Check.due("pins anew", x.pins(1), 1);
        int[] anew = {5, 1, 4, 1, 5, 4, 1, 2};
        for (int what = 0; what < anew.length; what++) {
            Check.due("tune 1 " + what + " anew", x.tune(1, what), anew[what]);
        }
        Check.due("off", x.off(1), 1);
        for (int what = 4; what <= 7; what++) {
            Check.due("tune 1 " + what + " taken off", x.tune(1, what), OrganBarrel.NONE);
        }
        int[][] bad = {{-1, 0}, {3, 0}, {0, -1}, {0, 8}};
        for (int[] b : bad) {
            Check.refused("tune " + b[0] + " " + b[1], x, () -> x.tune(b[0], b[1]), OrganBarrel.BAD);
        }
    }

    private static void noteOf() {
        OrganBarrel x = new OrganBarrel();
        x.ticks(0, 7);
        x.note(0, 3, 5, 2);
        x.shift(0, 10);
        // 5 * 24 / 7 is 17 and 1 of 7; 7 * 24 / 7 is 24
        int[] due = {3, 5, 2, 3, 7};
        for (int what = 0; what < due.length; what++) {
            Check.due("noteOf 0 0 " + what, x.noteOf(0, 0, what), due[what]);
        }
        int[][] bad = {{-1, 0, 0}, {3, 0, 0}, {0, -1, 0}, {0, 1, 0}, {1, 0, 0}, {0, 0, -1}, {0, 0, 5},
            {0, Integer.MAX_VALUE, 0}};
        for (int[] b : bad) {
            Check.refused("noteOf " + b[0] + " " + b[1] + " " + b[2], x, () -> x.noteOf(b[0], b[1], b[2]), OrganBarrel.BAD);
        }
    }

    private static void anglesByWay() {
        OrganBarrel x = new OrganBarrel();
        // 16 ticks of 24 angles: tick 1 is 1.5 (a half), tick 3 is 4.5, tick 2 is 3; 1 .. 3 hold what is between
        x.ticks(0, 16);
        x.note(0, 0, 1, 2);
        int[][] due = {{1, 3}, {2, 3}, {2, 3}};
        for (int way = 0; way <= 2; way++) {
            x.sets(0, way);
            Check.due("BEGIN of tick 1 of 16, WAY " + way, x.noteOf(0, 0, 3), due[way][0]);
            Check.due("HOLDS, WAY " + way, x.noteOf(0, 0, 4), due[way][1]);
        }
        // 5 ticks: 4.8, 9.6, 14.4, 19.2
        x.ticks(1, 5);
        x.note(1, 0, 3, 1);
        int[][] five = {{14, 5}, {14, 5}, {15, 5}};
        for (int way = 0; way <= 2; way++) {
            x.sets(0, way);
            Check.due("BEGIN of tick 3 of 5, WAY " + way, x.noteOf(1, 0, 3), five[way][0]);
            Check.due("HOLDS, WAY " + way, x.noteOf(1, 0, 4), five[way][1]);
        }
        x.ticks(2, 1);
        x.note(2, 0, 0, 1);
        Check.due("one tick HOLDS all", x.noteOf(2, 0, 4), 24);
    }
}
