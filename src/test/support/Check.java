import java.util.function.IntSupplier;

/** What the tests share: prints each answer that is not the one that is due, and ends with exit code 1 if there was one. */
final class Check {
    private static int asked = 0;
    private static int wrong = 0;
    private static String sentence = "";

    private Check() {
    }

    /** The words of the document for which the answers from here on are asked. */
    static void sentence(String words) {
        sentence = "[" + words + "] ";
    }

    static void due(String call, long got, long want) {
        asked++;
        if (got != want) {
            wrong++;
            if (wrong <= 50) {
                System.out.println(sentence + call + " answered " + got + ", due is " + want);
            }
        }
    }

    static void that(String what, boolean holds) {
        due(what, holds ? 1 : 0, 1);
    }

    /** A refused call: its answer, that it counts as BAD (0), NO (1) or FULL (2) once, and that nothing else changes but CAUSE. */
    static void refused(String call, OrganBarrel x, IntSupplier asks, int code) {
        int kind = code == OrganBarrel.BAD ? 0 : code == OrganBarrel.NO ? 1 : 2;
        changesOnly(call, x, asks, code, kind);
    }

    /** A text that is stopped: it counts as nothing. */
    static void stopped(String call, OrganBarrel x, int answer) {
        changesOnly(call, x, x::reads, answer, -1);
    }

    /** A number of the digest that grows by d adds d times 31 to the power of how many come behind it. */
    private static void changesOnly(String call, OrganBarrel x, IntSupplier asks, int answer, int counted) {
        long before = x.digest();
        int[] causeBefore = {x.why(0), x.why(1), x.why(2), x.why(3)};
        due(call, asks.getAsInt(), answer);
        int length = digestLength(x);
        long expected = before;
        if (counted >= 0) {
            expected += power(length - 1 - counted);
        }
        for (int i = 0; i < 4; i++) {
            expected += (x.why(i) - causeBefore[i]) * power(length - 1 - 11 - i);
        }
        due(call + ", digest behind it", x.digest(), expected);
    }

    private static int digestLength(OrganBarrel x) {
        int length = 11 + 4 + x.told(5) + 7 + 6 * x.all(2);
        for (int t = 0; t < x.told(6); t++) {
            length += 8 + 5 * x.tune(t, 1);
        }
        return length;
    }

    private static long power(int n) {
        long p = 1;
        for (int i = 0; i < n; i++) {
            p *= 31;
        }
        return p;
    }

    static void cause(String call, OrganBarrel x, int kind, int first, int second, int order) {
        due("KIND of " + call, x.why(0), kind);
        due("FIRST of " + call, x.why(1), first);
        due("SECOND of " + call, x.why(2), second);
        due("ORDER of " + call, x.why(3), order);
    }

    /** THE TEXT becomes this one. */
    static void text(OrganBarrel x, String text) {
        x.clear();
        for (int i = 0; i < text.length(); i++) {
            due("type " + i + " of " + text, x.type(text.charAt(i)), i + 1);
        }
    }

    static int reads(OrganBarrel x, String text) {
        text(x, text);
        return x.reads();
    }

    static void end() {
        System.out.println(wrong == 0 ? "all " + asked + " answers are as due" : wrong + " of " + asked + " answers are not as due");
        if (wrong != 0) {
            System.exit(1);
        }
    }
}
