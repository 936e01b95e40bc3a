import java.util.ArrayList;
import java.util.List;
import java.util.function.Supplier;
import java.util.function.ToIntFunction;
import java.util.regex.Matcher;
import java.util.regex.Pattern;

/** The edges of THE TEXT, its ORDERS and FAULTS, and promises 26 to 28; each sentence of the document has a test. */
public final class EdgesOfTexts {
    private static final Twins NEW = new Twins("new", OrganBarrel::new);
    private static final Twins RICH = new Twins("rich", Made::rich);
    private static final Twins FULL = new Twins("full", Made::full);

    private static final String NUMBER = "[0-9]{1,2}";
    private static final String NOTE = NUMBER + " +" + NUMBER + " +" + NUMBER;
    private static final String TICKS = "t *" + NUMBER + " +" + NUMBER + "( *: *" + NOTE + "( *, *" + NOTE + ")*)?";
    private static final String OTHERS = "[hg] *" + NUMBER + " +" + NUMBER + "|[poe] *" + NUMBER;
    private static final Pattern ORDERS = Pattern.compile(" *((" + TICKS + "|" + OTHERS + ") *; *)+");

    /** The object that texts are read by; a new one, before it comes to its 512th call. */
    private static OrganBarrel reader = new OrganBarrel();
    private static int calls = 0;

    public static void main(String[] args) {
        typeLimits();
        typeFull();
        typeAnswers();
        clearAnswers();
        faultOfShortTexts();
        faultOfOtherBytes();
        faultOfPrefixes();
        faultAtTheEndOf120();
        faultOfNothing();
        faultOfNumbers();
        faultOfLongNumbers();
        faultOfBlanks();
        faultDoesNothing();
        ordersAsTheirCalls();
        numbersAsTheirCalls();
        orderStopsAll();
        orderBehindOthers();
        readsAnswers();
        readsRefused();
        readsLeavesTheText();
        nothingCounts();
        Check.end();
    }

    private static void typeLimits() {
        Check.sentence("A byte (0 .. 127) comes behind THE TEXT .. BAD");
        for (Twins twins : new Twins[] {NEW, RICH}) {
            twins.limits("type", v -> x -> x.type(v), 0, 127);
        }
        for (int c : new int[] {Integer.MIN_VALUE, -1, 128, Integer.MAX_VALUE}) {
            FULL.bad("type " + c + ", BAD and FULL", x -> x.type(c));
        }
        OrganBarrel x = new OrganBarrel();
        for (int c = 0; c < 120; c++) {
            Check.due("type " + c, x.type(c), c + 1);
        }
        x.clear();
        for (int c = 120; c <= 127; c++) {
            Check.due("type " + c, x.type(c), c - 119);
        }
    }

    private static void typeFull() {
        Check.sentence("type: FULL: 120.");
        FULL.full("type e", x -> x.type('e'));
        FULL.full("type 0", x -> x.type(0));
        OrganBarrel x = new OrganBarrel();
        for (int i = 1; i <= 119; i++) {
            x.type(' ');
        }
        Check.due("bytes", x.told(3), 119);
        Check.due("type the 120th", x.type(' '), 120);
        Check.due("type the 121st", x.type(' '), OrganBarrel.FULL);
        Check.due("bytes", x.told(3), 120);
        Check.due("how often FULL", x.told(2), 1);
    }

    private static void typeAnswers() {
        Check.sentence("how many it has");
        OrganBarrel x = Made.rich();
        Check.due("type", x.type('p'), 31);
        Check.due("type refused", x.type(128), OrganBarrel.BAD);
        Check.due("type", x.type('0'), 32);
        Check.due("no STATE is left", x.told(10), 3);
    }

    private static void clearAnswers() {
        Check.sentence("THE TEXT is empty: how many it had.");
        NEW.answers("clear", OrganBarrel::clear, 0);
        OrganBarrel x = Made.full();
        Check.due("clear", x.clear(), 120);
        Check.due("bytes", x.told(3), 0);
        Check.due("clear again", x.clear(), 0);
        Check.due("there is room", x.type('e'), 1);
        Check.due("clear", x.clear(), 1);
        Check.due("reads: it is empty", x.reads(), -10);
        Check.due("no STATE is left or lost", x.told(10), 5);
        Check.due("refused", x.told(0) + x.told(1) + x.told(2), 3);
        x = Made.rich();
        x.clear();
        Check.due("another text: nothing of the one before is in it", Check.reads(x, "e0;"), 1);
    }

    // ---- FAULT

    /** By the sentence itself: the first byte behind which no text could follow that tells ORDERS. */
    private static int fault(String text) {
        for (int i = 0; i < text.length(); i++) {
            if (!couldGoOn(text.substring(0, i + 1))) {
                return isThirdFigure(text, i) ? i - 2 : i;
            }
        }
        return ORDERS.matcher(text).matches() ? -1 : text.length();
    }

    private static boolean couldGoOn(String begun) {
        Matcher matcher = ORDERS.matcher(begun);
        return matcher.matches() || matcher.hitEnd();
    }

    private static boolean isThirdFigure(String text, int i) {
        return i >= 2 && text.substring(i - 2, i + 1).matches("[0-9]{3}");
    }

    private static void compareFault(String text) {
        if (calls > 250) {
            reader = new OrganBarrel();
            calls = 0;
        }
        calls += text.length() + 2;
        reader.clear();
        for (int i = 0; i < text.length(); i++) {
            reader.type(text.charAt(i));
        }
        int answer = reader.reads();
        int due = fault(text);
        if (due >= 0) {
            Check.due("reads '" + text + "'", answer, -10 - due);
        } else {
            Check.that("reads '" + text + "' has no FAULT: " + answer, answer > 0 || answer <= -1000);
        }
    }

    /** Every text of up to 6 of these bytes. */
    private static void faultOfShortTexts() {
        Check.sentence("FAULT: the place of the first byte that can not stand there .. ; the TEXT's length, if it ends too early");
        List<String> texts = new ArrayList<>(List.of(""));
        for (int length = 0; length <= 6; length++) {
            List<String> longer = new ArrayList<>();
            for (String text : texts) {
                compareFault(text);
                for (char c : "te0 :,;".toCharArray()) {
                    longer.add(text + c);
                }
            }
            texts = longer;
        }
    }

    private static final String[] SAMPLES = {"t0 8;", "t01 24:0 0 2;", "t0 8:3 0 2,1 04 1;e1;", " t 0 8 : 0 0 2 , 1 4 1 ; ", "h0 5;", "h 02 11 ;",
        "p0;", "p 1 ; o 1;", "o2;", "o 00;", "g3 6;", "g 1 02 ;e 3;", "e0;", "e 03 ; e2;", "p0;o0;p1;o1;h1 1;g1 1;e1;t1 1;"};

    /** Every byte in each place of texts that are right, in place of what is there, before it and behind all. */
    private static void faultOfOtherBytes() {
        Check.sentence("FAULT: the place of the first byte that can not stand there");
        for (String text : SAMPLES) {
            for (int at = 0; at <= text.length(); at++) {
                for (int c = 0; c <= 127; c++) {
                    compareFault(text.substring(0, at) + (char) c + text.substring(at));
                    if (at < text.length()) {
                        compareFault(text.substring(0, at) + (char) c + text.substring(at + 1));
                    }
                }
                if (at < text.length()) {
                    compareFault(text.substring(0, at) + text.substring(at + 1));
                }
            }
        }
    }

    private static void faultOfPrefixes() {
        Check.sentence("the TEXT's length, if it ends too early (an empty one, too)");
        for (String text : SAMPLES) {
            for (int length = 0; length <= text.length(); length++) {
                compareFault(text.substring(0, length));
            }
        }
        String[] early = {"", " ", "t", "t0", "t0 ", "t0 8", "t0 8 ", "t0 8:", "t0 8:0", "t0 8:0 0 1", "t0 8:0 0 1,", "e1;p", "e1;e1", "h0", "g0 "};
        for (String text : early) {
            NEW.faults(text, text.length());
            RICH.faults(text, text.length());
        }
    }

    private static void faultAtTheEndOf120() {
        Check.sentence("THE TEXT (120 bytes at most)");
        String orders = "e1;".repeat(39);
        NEW.done(orders + "e0;", 40);
        NEW.done(orders + "   ", 39);
        NEW.faults(orders + " e1", 120);
        NEW.faults(orders + "e1:", 119);
        NEW.faults(orders + "e;;", 118);
        NEW.faults(orders + "123", 117);
        NEW.faults(orders + "p12", 120);
        NEW.faults(" ".repeat(120), 120);
        NEW.faults(" ".repeat(119) + ";", 119);
        NEW.done(" ".repeat(117) + "e1;", 1);
        NEW.stops(orders + "e4;", 39, 5, 0, 0);
        NEW.stops(" ".repeat(117) + "e4;", 0, 5, 0, 0);
        NEW.faults("t0 8:0 0 1" + ",0 0 1".repeat(18), 118);
        NEW.stops("t0 8:0 0 1" + ",0 0 1".repeat(18) + ";", 0, 6, 0, 0);
        // What comes as the 121st is not in it: the last ORDER is not ended.
        OrganBarrel x = new OrganBarrel();
        Check.text(x, orders + " e0");
        x.type(';');
        Check.due("reads", x.reads(), -130);
    }

    private static void faultOfNothing() {
        Check.sentence("(an empty one, too)");
        for (Twins twins : new Twins[] {NEW, RICH, FULL}) {
            twins.faults("", 0);
        }
    }

    private static void faultOfNumbers() {
        Check.sentence("Numbers have 1 or 2 figures .. (a number of three figures or more: its first byte)");
        RICH.faults("e000;", 1);
        RICH.faults("e 0001;", 2);
        RICH.faults("e1;p123", 4);
        RICH.faults("t100 8;", 1);
        RICH.faults("t0 100;", 3);
        RICH.faults("t0 8:000 0 1;", 5);
        RICH.faults("t0 8:0 010 1;", 7);
        RICH.faults("t0 8:0 0 1111111;", 9);
        RICH.faults("t0 8:0 0 1,3 4 123", 15);
        RICH.faults("h0 017;", 3);
        RICH.faults("g0 123;", 3);
        RICH.faults("e1 234;", 3);
        RICH.faults("123;", 0);
        NEW.done("e00;", 1);
        NEW.done("e3;", 1);
        NEW.done("t00 01:00 00 01;h02 23;", 2);
        NEW.stops("e99;", 0, 5, 0, 0);
        NEW.stops("e10;", 0, 5, 0, 0);
    }

    /** In each place where a number can stand, and at THE TEXT's end as well as before what comes behind it. */
    private static void faultOfLongNumbers() {
        Check.sentence("the place of the first byte that can not stand there (a number of three figures or more: its first byte); the "
                + "TEXT's length, if it ends too early");
        String[] before = {"t", "t0 ", "t0 8:", "t0 8:0 ", "t0 8:0 0 ", "t0 8:0 0 1,", "t0 8:0 0 1,1 ", "t0 8:0 0 1,1 0 ", "h", "h0 ", "p", "o",
            "g", "g0 ", "e"};
        for (String begun : before) {
            for (String first : new String[] {"", "e1;", "  ", "t0 1:0 0 1;  "}) {
                for (int figures = 1; figures <= 7; figures++) {
                    String text = first + begun + "0123456".substring(0, figures);
                    int due = figures > 2 ? first.length() + begun.length() : text.length();
                    Check.due("reads '" + text + "'", Check.reads(new OrganBarrel(), text), -10 - due);
                    if (figures > 2) {
                        Check.due("reads '" + text + ";'", Check.reads(new OrganBarrel(), text + ";"), -10 - due);
                        Check.due("reads '" + text + " '", Check.reads(new OrganBarrel(), text + " "), -10 - due);
                        Check.due("reads '" + text + "x'", Check.reads(new OrganBarrel(), text + "x"), -10 - due);
                    }
                }
            }
        }
        NEW.faults(" ".repeat(116) + "e123", 117);
        NEW.faults(" ".repeat(117) + "e12", 120);
        RICH.faults("e1;" + "0".repeat(117), 3);
        RICH.faults("e" + "0".repeat(119), 1);
    }

    private static void faultOfBlanks() {
        Check.sentence("blanks (32) may stand anywhere but within a number, needed only between two numbers");
        NEW.done("t0 8:0 0 1,1 0 1;h1 2;g3 4;e2;p0;o0;", 6);
        NEW.done("   t   0   8   :   0   0   1   ,   1   0   1   ;   h   1   2   ;   g   3   4   ;   e   2   ;   p   0   ;   o   0   ;  ", 6);
        NEW.faults("t08;", 3);
        NEW.faults("h12;", 3);
        NEW.faults("g12;", 3);
        NEW.faults("e1 2;", 3);
        NEW.faults("p0 1;", 3);
        NEW.faults("t1 2 3;", 5);
        NEW.faults("t0 8:00 1;", 9);
        NEW.faults("e\t1;", 1);
        NEW.faults("e1;\n", 3);
        NEW.faults("\u00001;", 0);
    }

    private static void faultDoesNothing() {
        Check.sentence("If there is one, nothing is done.");
        RICH.faults("e0;t0 5:0 0 1;h1 3;g1 5;o0;o1;x", 30);
        RICH.faults("e0;o0;p", 7);
        FULL.faults("o0;o1;o2;e0;g5 0", 16);
        RICH.faults("o2;e9;x", 6);
    }

    // ---- ORDERS

    private static void asCalls(String text, Supplier<OrganBarrel> makes, ToIntFunction<OrganBarrel> calls) {
        List<Integer> read = Twins.seen(() -> {
            OrganBarrel x = makes.get();
            Check.that("reads '" + text + "' is done", Check.reads(x, text) > 0);
            return x;
        }, 0);
        List<Integer> called = Twins.seen(() -> {
            OrganBarrel x = makes.get();
            Check.that("the calls of '" + text + "' are done", calls.applyAsInt(x) >= 0);
            Check.text(x, text);
            return x;
        }, 0);
        Check.that("'" + text + "' does as its calls", read.equals(called));
    }

    private static void ordersAsTheirCalls() {
        Check.sentence("tells ORDERS, each ended by ; : t n l (as ticks), perhaps then : and NOTES k s l (as note), parted by , ; "
                + "h n d (as shift); p n (as pins); o n (as off); g k v (as gap); e v (as side)");
        asCalls("t2 7;", Made::rich, x -> x.ticks(2, 7));
        asCalls("t0 12:2 0 12;", Made::rich, x -> x.ticks(0, 12) + x.note(0, 2, 0, 12));
        asCalls("t1 18:2 17 1,0 3 9,1 0 18;", Made::rich, x -> x.ticks(1, 18) + x.note(1, 2, 17, 1) + x.note(1, 0, 3, 9) + x.note(1, 1, 0, 18));
        asCalls("h2 17;", Made::rich, x -> x.shift(2, 17));
        asCalls("p1;", Made::rich, x -> x.pins(1));
        asCalls("o1;", Made::rich, x -> x.off(1));
        asCalls("g2 6;", Made::rich, x -> x.gap(2, 6));
        asCalls("e3;", Made::rich, x -> x.side(3));
        asCalls("o0;o1;e0;p2;h0 3;g0 0;o2;p0;t1 6:1 5 1;p1;", Made::rich, x -> x.off(0) + x.off(1) + x.side(0) + x.pins(2) + x.shift(0, 3)
                + x.gap(0, 0) + x.off(2) + x.pins(0) + x.ticks(1, 6) + x.note(1, 1, 5, 1) + x.pins(1));
        asCalls("o2;t2 24:5 23 1;p2;", Made::full, x -> x.off(2) + x.ticks(2, 24) + x.note(2, 5, 23, 1) + x.pins(2));
        asCalls("p0;p0;p0;", Made::full, x -> x.pins(0) + x.pins(0) + x.pins(0));
    }

    /** An ORDER and its call, with every number that an ORDER can have, on objects of their own. */
    private static void asCall(String text, Supplier<OrganBarrel> makes, ToIntFunction<OrganBarrel> call, boolean pinning) {
        OrganBarrel x = makes.get();
        OrganBarrel y = makes.get();
        int[] refused = {x.told(0), x.told(1), x.told(2)};
        int answer = call.applyAsInt(y);
        Check.due("reads '" + text + "', its call answered " + answer, Check.reads(x, text), answer >= 0 ? 1 : -1000);
        for (int what = 0; what <= 2; what++) {
            Check.due("told " + what + " behind '" + text + "'", x.told(what), refused[what]);
        }
        if (answer >= 0) {
            return;
        }
        int kind = answer == OrganBarrel.BAD ? 5 : answer == OrganBarrel.NO ? 6 : 7;
        boolean told = pinning && answer == OrganBarrel.NO;
        Check.cause("'" + text + "'", x, told ? y.why(0) : kind, told ? y.why(1) : 0, told ? y.why(2) : 0, 0);
    }

    private static void numbersAsTheirCalls() {
        Check.sentence("An ORDER that its call (of a t: one of its calls) would refuse");
        List<Supplier<OrganBarrel>> makes = List.of(OrganBarrel::new, Made::small, Made::rich, Made::full);
        for (Supplier<OrganBarrel> make : makes) {
            for (int i = 0; i <= 99; i++) {
                int v = i;
                String two = (v < 10 ? "0" : "") + v;
                asCall("e" + v + ";", make, x -> x.side(v), false);
                asCall("p" + v + ";", make, x -> x.pins(v), true);
                asCall("o" + two + ";", make, x -> x.off(v), false);
                asCall("g" + v + " 2;", make, x -> x.gap(v, 2), false);
                asCall("g0 " + two + ";", make, x -> x.gap(0, v), false);
                asCall("h" + v + " 2;", make, x -> x.shift(v, 2), false);
                asCall("h1 " + v + ";", make, x -> x.shift(1, v), false);
                asCall("t" + two + " 5;", make, x -> x.ticks(v, 5), false);
                asCall("t1 " + v + ";", make, x -> x.ticks(1, v), false);
                asCall("t1 5:" + v + " 0 1;", make, x -> Math.min(x.ticks(1, 5), x.note(1, v, 0, 1)), false);
                asCall("t1 5:0 " + v + " 1;", make, x -> Math.min(x.ticks(1, 5), x.note(1, 0, v, 1)), false);
                asCall("t1 5:0 2 " + v + ";", make, x -> Math.min(x.ticks(1, 5), x.note(1, 0, 2, v)), false);
            }
        }
    }

    private static void orderStopsAll() {
        Check.sentence("An ORDER that its call .. would refuse stops all: nothing is done.");
        RICH.stops("e0;h0 1;g0 5;t0 5:0 0 1,1 1 1;o0;o1;t1 19;", 6, 5, 0, 0);
        RICH.stops("e0;h0 1;g0 5;t0 5:0 0 1,1 1 1;o0;o1;o1;", 6, 6, 0, 0);
        RICH.stops("e0;o0;o1;p2;t2 1;p2;", 5, 4, 0, 0);
        RICH.stops("o2;e0;e1;", 0, 6, 0, 0);
        FULL.stops("o0;o1;o2;t0 24:0 0 24;p0;", 4, 1, 0, 0);
        FULL.stops("h0 1;p0;", 1, 2, 0, 16);
        Check.sentence("(of a t: one of its calls)");
        RICH.stops("t3 5;", 0, 5, 0, 0);
        RICH.stops("t0 19:0 0 1;", 0, 5, 0, 0);
        RICH.stops("t0 5:0 0 1,0 5 1,0 1 1;", 0, 5, 0, 0);
        RICH.stops("t0 5:0 0 1,0 1 1,0 1 2;", 0, 6, 0, 0);
        RICH.stops("t0 5:0 0 1,0 0 1,9 9 9;", 0, 6, 0, 0);
        RICH.stops("t0 5:0 0 1,0 0 9,0 0 1;", 0, 5, 0, 0);
    }

    private static void orderBehindOthers() {
        Check.sentence("ORDERS are done (each as what was done before it left all)");
        RICH.done("o1;p1;", 2);
        RICH.stops("o1;p1;o1;p1;o1;o1;", 5, 6, 0, 0);
        RICH.done("t1 9:1 0 2;p1;t1 3;o1;", 4);
        RICH.stops("t1 9:1 0 2;p1;t1 3;o1;p1;", 4, 4, 0, 0);
        RICH.done("t2 18:0 17 1;t2 9:0 8 1;", 2);
        RICH.stops("t2 18:0 17 1;t2 9:0 9 1;", 1, 5, 0, 0);
        RICH.done("g1 6;t2 18:1 0 6,1 12 1;g1 5;e0;o0;p2;", 6);
        RICH.stops("g1 6;t2 18:1 0 6,1 12 1;e0;o0;p2;", 4, 1, 1, 5);
    }

    private static void readsAnswers() {
        Check.sentence("ORDERS are done: how many. S (one STATE for all).");
        NEW.done("e1;", 1);
        RICH.done("e1;e1;", 2);
        FULL.does("reads", OrganBarrel::reads, 40);
        OrganBarrel x = Made.full();
        x.reads();
        Check.due("SIDE of the last ORDER", x.told(8), 2);
        x.back();
        Check.due("SIDE before the first", x.told(8), 1);
        for (int n = 1; n <= 40; n++) {
            OrganBarrel y = new OrganBarrel();
            Check.due("reads", Check.reads(y, "e2;".repeat(n)), n);
            Check.due("STATES", y.told(10), 1);
            Check.due("back", y.back(), 0);
            Check.due("SIDE", y.told(8), 1);
        }
    }

    private static void readsRefused() {
        Check.sentence("-10 less the FAULT; -1000 less the number of the ORDER (0 on) that stops all, and CAUSE.");
        for (int n = 0; n < 40; n++) {
            OrganBarrel x = new OrganBarrel();
            Check.due("reads, the ORDER " + n, Check.reads(x, "e1;".repeat(n) + "e7;".repeat(40 - n)), -1000 - n);
            Check.cause("the ORDER " + n, x, 5, 0, 0, n);
        }
        for (int n = 0; n < 120; n++) {
            OrganBarrel x = new OrganBarrel();
            Check.due("reads, the FAULT " + n, Check.reads(x, " ".repeat(n) + "x".repeat(120 - n)), -10 - n);
            Check.due("reads, the FAULT " + n + " at its end", Check.reads(x, " ".repeat(n)), -10 - n);
            Check.cause("a FAULT", x, 0, 0, 0, -1);
        }
    }

    private static void readsLeavesTheText() {
        Check.sentence("(THE TEXT stays when it is read)");
        OrganBarrel x = new OrganBarrel();
        Check.due("reads", Check.reads(x, "e2;"), 1);
        Check.due("reads again", x.reads(), 1);
        Check.due("bytes", x.told(3), 3);
        x.type('e');
        Check.due("reads, more behind it", x.reads(), -14);
        x.type('4');
        x.type(';');
        Check.due("reads, more behind it", x.reads(), -1001);
        Check.due("reads once more", x.reads(), -1001);
        Check.due("STATES", x.told(10), 2);
        OrganBarrel y = Made.full();
        for (int i = 0; i < 100; i++) {
            Check.due("reads the " + i + "th time", y.reads(), 40);
        }
    }

    private static void nothingCounts() {
        Check.sentence("By what THE TEXT tells, by a FAULT of it nothing counts (type() counts as any call).");
        OrganBarrel x = new OrganBarrel();
        String[] texts = {"x", "e4;", "o0;", "p0;", "t0 1:0 0 1,0 0 1;", "", "t0 13:0 0 1,0 1 1,0 2 1,0 3 1,0 4 1,0 5 1,0 6 1,0 7 1,0 8 1,0 9 1,"
            + "0 10 1,0 11 1,0 12 1;"};
        for (String text : texts) {
            Check.that("reads '" + text + "' is refused", Check.reads(x, text) < 0);
            Check.due("how often refused", x.told(0) + x.told(1) + x.told(2), 0);
        }
        x.type(-1);
        Check.due("type -1 counts as BAD", x.told(0), 1);
        while (x.told(3) < 120) {
            x.type(' ');
        }
        x.type(' ');
        Check.due("type the 121st counts as FULL", x.told(2), 1);
    }
}
