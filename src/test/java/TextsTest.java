/** Promises 26 to 30: type, clear, reads, back, told. */
public final class TextsTest {
    public static void main(String[] args) {
        type();
        clear();
        readsOrders();
        readsBlanks();
        readsFaults();
        readsStops();
        readsNothingCounts();
        readsMany();
        back();
        told();
        Check.end();
    }

    private static void type() {
        OrganBarrel x = new OrganBarrel();
        Check.due("type 0", x.type(0), 1);
        Check.due("type 127", x.type(127), 2);
        Check.refused("type -1", x, () -> x.type(-1), OrganBarrel.BAD);
        Check.refused("type 128", x, () -> x.type(128), OrganBarrel.BAD);
        for (int i = 3; i <= 120; i++) {
            Check.due("type the " + i + "th", x.type(' '), i);
        }
        Check.refused("type the 121st", x, () -> x.type(' '), OrganBarrel.FULL);
        Check.refused("type the 121st, not as told", x, () -> x.type(128), OrganBarrel.BAD);
        Check.due("no STATES", x.told(10), 0);
    }

    private static void clear() {
        OrganBarrel x = new OrganBarrel();
        Check.due("clear", x.clear(), 0);
        Check.text(x, "p0;");
        Check.due("clear", x.clear(), 3);
        Check.due("clear again", x.clear(), 0);
        Check.due("no STATES", x.told(10), 0);
    }

    private static void readsOrders() {
        OrganBarrel x = new OrganBarrel();
        Check.due("reads", Check.reads(x, "t1 8:0 0 2,3 4 1;h1 5;g3 4;e2;t0 24:0 14 3;p1;p0;o1;t2 07;"), 9);
        Check.due("one STATE", x.told(10), 1);
        Check.due("TICKS of 1", x.tune(1, 0), 8);
        Check.due("NOTES of 1", x.tune(1, 1), 2);
        Check.due("SHIFT of 1", x.tune(1, 2), 5);
        Check.due("KEY", x.noteOf(1, 1, 0), 3);
        Check.due("START", x.noteOf(1, 1, 1), 4);
        Check.due("LENGTH", x.noteOf(1, 1, 2), 1);
        Check.due("PINNED", x.all(0), 1);
        Check.due("TICKS of 2", x.tune(2, 0), 7);
        Check.due("SIDE", x.told(8), 2);
        Check.due("GAP", x.gap(3, 4), 4);
        Check.due("THE TEXT stays", x.told(3), 58);
        Check.cause("nothing refused", x, 0, 0, 0, -1);
        Check.due("reads again: o1 once more", x.reads(), 9);
        Check.due("back", x.back(), 2);
        Check.due("back", x.back(), 1);
        Check.due("back", x.back(), 0);
        Check.due("all is as before", x.tune(1, 0), 24);
        Check.due("SIDE", x.told(8), 1);
        Check.due("THE TEXT does not go back", x.told(3), 58);
    }

    private static void readsBlanks() {
        OrganBarrel x = new OrganBarrel();
        Check.due("reads", Check.reads(x, "  t  0   6  :  0  1  2  ,  01 00 03 ;  p 0 ;  "), 2);
        Check.due("NOTES", x.tune(0, 1), 2);
        Check.due("PINS", x.tune(0, 6), 2);
        Check.due("reads", Check.reads(x, "t0 6:0 1 2,1 0 3;p0;"), 2);
        Check.due("reads 1 order", Check.reads(x, "e03;"), 1);
        Check.due("SIDE", x.told(8), 3);
    }

    private static void readsFaults() {
        OrganBarrel x = new OrganBarrel();
        String[] texts = {"", "   ", "p0", "p", "p0;p", "p0; t 1", "t0 8:", "t0 8:0 0 2", "t0 8:0 0 2,",
            "x0;", "P0;", ";", "0;", "p;", "p0 1;", "p01 2;", "p000;", "p0;p 123", "t0 8 9;", "t08;", "t0,8;", "t0 8,0 0 1;",
            "t0 8:;", "t0 8:0 0;", "t0 8:0 0 1 2;", "t0 8:0 0 1:0 2 1;", "t0 8:0 0 1,;", "h0 8:0 0 1;", "h0;", "g0;",
            "g0 1 2;", "e;", "e0 0;", "e-1;", "p0;;", "p0\t;", "o0,1;", "t0 8:0 0 100;", "t 100 8;", "p0p1;", "p 0 ; ;", "e1 234;",
            "t0 8 : 0 0 1 , 1 1 1 x;"};
        int[] faults = {0, 3, 2, 1, 4, 7, 5, 10, 11,
            0, 0, 0, 0, 1, 3, 4, 1, 5, 5, 3, 2, 4,
            5, 8, 11, 10, 11, 4, 2, 2,
            5, 1, 3, 1, 3, 2, 2, 9, 2, 2, 6, 3,
            21};
        for (int i = 0; i < texts.length; i++) {
            Check.due("reads '" + texts[i] + "'", Check.reads(x, texts[i]), -10 - faults[i]);
            if (i % 6 == 5) {
                Check.due("no STATES", x.told(10), 0);
                Check.due("nothing counts", x.told(0) + x.told(1) + x.told(2), 0);
                Check.cause("a FAULT is no CAUSE", x, 0, 0, 0, -1);
                x = new OrganBarrel();
            }
        }
        Check.due("a FAULT behind good ORDERS", Check.reads(x, "e3;t0 5;e"), -19);
        Check.due("nothing is done", x.told(8), 1);
        Check.due("nothing is done", x.tune(0, 0), 24);
    }

    private static void stops(OrganBarrel x, String text, int order, int kind, int first, int second) {
        Check.text(x, text);
        Check.stopped("reads '" + text + "'", x, -1000 - order);
        Check.cause(text, x, kind, first, second, order);
    }

    private static OrganBarrel prepared() {
        OrganBarrel x = new OrganBarrel();
        x.note(0, 0, 0, 3);
        x.pins(0);
        x.note(1, 0, 1, 2);
        return x;
    }

    private static void readsStops() {
        stops(prepared(), "e3;e4;", 1, 5, 0, 0);
        stops(prepared(), "t3 8;", 0, 5, 0, 0);
        stops(prepared(), "t2 25;", 0, 5, 0, 0);
        stops(prepared(), "t2 0;", 0, 5, 0, 0);
        stops(prepared(), "t2 8:4 0 1;", 0, 5, 0, 0);
        stops(prepared(), "t2 8:0 0 1,0 8 1;", 0, 5, 0, 0);
        stops(prepared(), "e1;e2;t2 8:0 0 2,0 1 1;", 2, 6, 0, 0);
        stops(prepared(), "h0 24;", 0, 5, 0, 0);
        stops(prepared(), "h3 0;", 0, 5, 0, 0);
        stops(prepared(), "g4 0;", 0, 5, 0, 0);
        stops(prepared(), "g0 7;", 0, 5, 0, 0);
        stops(prepared(), "o0;o0;", 1, 6, 0, 0);
        stops(prepared(), "o3;", 0, 5, 0, 0);
        stops(prepared(), "p99;", 0, 5, 0, 0);
        stops(prepared(), "p2;", 0, 4, 0, 0);
        stops(prepared(), "e0;h1 1;p1;", 2, 2, 0, 0);
        stops(prepared(), "t1 24:3 0 1,2 0 24;p1;", 1, 1, 1, 0);
        stops(prepared(), "o0;p0;o0;e2;p0;h0 3;g1 1;g1 2;p2;", 8, 4, 0, 0);
        stops(prepared(), "t2 24:0 0 1,0 1 1,0 2 1,0 3 1,0 4 1,0 5 1,0 6 1,0 7 1,0 8 1,0 9 1,0 10 1,0 11 1,0 12 1;", 0, 7, 0, 0);
        stops(prepared(), "t2 24:0 0 1,0 1 1,0 2 1,0 3 1,0 4 1,0 5 1,0 6 1,0 7 1,0 8 1,0 9 1,0 10 1,0 11 1,0 11 1;", 0, 6, 0, 0);
    }

    private static void readsNothingCounts() {
        OrganBarrel x = prepared();
        Check.due("reads", Check.reads(x, "o1;"), -1000);
        Check.due("reads", Check.reads(x, "e9;"), -1000);
        Check.due("reads", Check.reads(x, "e9"), -12);
        for (int what = 0; what <= 2; what++) {
            Check.due("told " + what, x.told(what), 0);
        }
        x.type(-1);
        Check.due("type counts as any call", x.told(0), 1);
        Check.cause("the last ORDER refused", x, 5, 0, 0, 0);
        Check.due("a text that is done", Check.reads(x, "e2;"), 1);
        Check.cause("the last ORDER refused", x, 5, 0, 0, 0);
    }

    private static void readsMany() {
        OrganBarrel x = new OrganBarrel();
        Check.due("forty ORDERS in 120 bytes", Check.reads(x, "e3;".repeat(39) + "e2;"), 40);
        Check.due("SIDE", x.told(8), 2);
        Check.due("one STATE", x.told(10), 1);
        Check.due("39 and a refused one", Check.reads(x, "e3;".repeat(39) + "e4;"), -1039);
        x = new OrganBarrel();
        StringBuilder longest = new StringBuilder("t0 24:0 0 1");
        for (int i = 1; i < 12; i++) {
            longest.append(',').append(i % 4).append(' ').append(i).append(" 1");
        }
        longest.append(";p0;");
        Check.due("twelve NOTES", Check.reads(x, longest.toString()), 2);
        Check.due("PINS", x.tune(0, 6), 12);
        x = new OrganBarrel();
        Check.due("as many numbers as can be, then too early", Check.reads(x, "t0 1:0 0 1" + ",0 0 1".repeat(18)), -128);
    }

    private static void back() {
        OrganBarrel x = new OrganBarrel();
        Check.refused("back, none", x, x::back, OrganBarrel.NO);
        for (int v = 1; v <= 7; v++) {
            x.sets(2, v);
        }
        Check.due("5 STATES at most", x.told(10), 5);
        Check.due("back", x.back(), 4);
        Check.due("LIMIT", x.told(9), 6);
        Check.due("a call behind it leaves one", x.sets(2, 50), 6);
        Check.due("STATES", x.told(10), 5);
        for (int left = 4; left >= 0; left--) {
            Check.due("back", x.back(), left);
        }
        Check.due("the oldest kept", x.told(9), 2);
        Check.refused("back, none", x, x::back, OrganBarrel.NO);
        x.barrel(7, 2, 2);
        x.note(0, 0, 0, 1);
        x.pins(0);
        x.back();
        x.back();
        x.back();
        Check.due("R before barrel", x.told(4), 24);
        Check.due("LIMIT before barrel", x.told(9), 2);
        x.gap(0, 9);
        x.note(0, 0, 0, 0);
        x.tune(0, 0);
        Check.due("refused calls and questions leave none", x.told(10), 0);
    }

    private static void told() {
        OrganBarrel x = new OrganBarrel();
        x.barrel(8, 2, 2);
        x.sets(0, 1);
        x.sets(1, 2);
        x.sets(2, 3);
        x.type('x');
        x.off(0);
        x.off(1);
        x.off(2);
        x.ticks(9, 9);
        x.drop(0, 0);
        int[] due = {3, 2, 0, 1, 8, 2, 2, 1, 2, 3, 4};
        for (int what = 0; what < due.length; what++) {
            Check.due("told " + what, x.told(what), due[what]);
        }
        Check.refused("told -1", x, () -> x.told(-1), OrganBarrel.BAD);
        Check.refused("told 11", x, () -> x.told(11), OrganBarrel.BAD);
        Check.due("told 0", x.told(0), 5);
        x.back();
        Check.due("how often does not go back", x.told(0), 5);
    }
}
