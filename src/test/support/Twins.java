import java.util.ArrayList;
import java.util.Arrays;
import java.util.List;
import java.util.function.BiConsumer;
import java.util.function.IntFunction;
import java.util.function.Supplier;
import java.util.function.ToIntFunction;

/**
 * Asks a call of an object and compares all that can be seen of it, as it is and as it was at each of its STATES, with a
 * twin that was brought to the same place and was not asked. An object is made anew for each part of what is seen, so
 * that none comes to its 512th call.
 */
final class Twins {
    private final String name;
    private final Supplier<OrganBarrel> makes;
    private final int states;
    /** How often BAD, NO, FULL; KIND, FIRST, SECOND, ORDER. */
    private final int[] before;
    private final List<List<Integer>> unasked = new ArrayList<>();

    Twins(String name, Supplier<OrganBarrel> makes) {
        this.name = name;
        this.makes = makes;
        OrganBarrel x = makes.get();
        states = x.told(10);
        before = countsAndCause(x);
        for (int back = 0; back <= states; back++) {
            unasked.add(seen(makes, back));
        }
    }

    // ---- what may be due of a call

    void bad(String call, ToIntFunction<OrganBarrel> asks) {
        refused(call, asks, OrganBarrel.BAD, 0, null);
    }

    void no(String call, ToIntFunction<OrganBarrel> asks) {
        refused(call, asks, OrganBarrel.NO, 1, null);
    }

    void full(String call, ToIntFunction<OrganBarrel> asks) {
        refused(call, asks, OrganBarrel.FULL, 2, null);
    }

    /** Refused by PINNING: CAUSE becomes what is told. */
    void noBecause(String call, ToIntFunction<OrganBarrel> asks, int kind, int first, int second) {
        refused(call, asks, OrganBarrel.NO, 1, new int[] {kind, first, second, OrganBarrel.NONE});
    }

    /** why() is refused by an answer of its own. */
    void badAnswers(String call, ToIntFunction<OrganBarrel> asks, int answer) {
        refused(call, asks, answer, 0, null);
    }

    void faults(String text, int fault) {
        typed(text).refused("reads '" + text + "'", OrganBarrel::reads, -10 - fault, -1, null);
    }

    void stops(String text, int order, int kind, int first, int second) {
        typed(text).refused("reads '" + text + "'", OrganBarrel::reads, -1000 - order, -1, new int[] {kind, first, second, order});
    }

    /** A question: its answer, that it counts as nothing and that nothing changes. */
    void answers(String call, ToIntFunction<OrganBarrel> asks, int answer) {
        refused(call, asks, answer, -1, null);
    }

    /** A call told S: it leaves a STATE, 5 at most, by which all comes back. */
    void does(String call, ToIntFunction<OrganBarrel> asks, int answer) {
        String what = call + " of a " + name + " one";
        OrganBarrel x = makes.get();
        Check.due(what, asks.applyAsInt(x), answer);
        int left = Math.min(5, states + 1);
        Check.due(what + ", STATES", x.told(10), left);
        Check.that(what + " counts as nothing and leaves CAUSE", Arrays.equals(countsAndCause(x), before));
        Check.due(what + ", back", x.back(), left - 1);
        Check.that(what + ", back: counts and CAUSE", Arrays.equals(countsAndCause(x), before));
        for (int back = 0; back <= left - 1; back++) {
            Check.that(what + ", back: all is as before, and " + back + " STATES further back",
                    seen(asked(asks), back + 1).equals(unasked.get(back)));
        }
    }

    void done(String text, int orders) {
        typed(text).does("reads '" + text + "'", OrganBarrel::reads, orders);
    }

    /** Outside of least .. most a number is BAD, the least and the greatest int too; at least and most it is not. */
    void limits(String call, IntFunction<ToIntFunction<OrganBarrel>> asks, int least, int most) {
        for (int v : new int[] {Integer.MIN_VALUE, least - 1, most + 1, Integer.MAX_VALUE}) {
            bad(call + " by " + v, asks.apply(v));
        }
        notBad(call + " by " + least, asks.apply(least));
        notBad(call + " by " + most, asks.apply(most));
    }

    void notBad(String call, ToIntFunction<OrganBarrel> asks) {
        OrganBarrel x = makes.get();
        Check.that(call + " of a " + name + " one is not BAD", asks.applyAsInt(x) != OrganBarrel.BAD);
        Check.due(call + " of a " + name + " one, how often BAD", x.told(0), before[0]);
    }

    // ---- how it is seen

    private void refused(String call, ToIntFunction<OrganBarrel> asks, int answer, int counted, int[] cause) {
        String what = call + " of a " + name + " one";
        OrganBarrel x = makes.get();
        Check.due(what, asks.applyAsInt(x), answer);
        int[] due = before.clone();
        if (counted >= 0) {
            due[counted]++;
        }
        if (cause != null) {
            System.arraycopy(cause, 0, due, 3, 4);
        }
        int[] got = countsAndCause(x);
        for (int i = 0; i < due.length; i++) {
            Check.due(what + ", behind it " + (i < 3 ? "told " + i : "why " + (i - 3)), got[i], due[i]);
        }
        Check.due(what + ", STATES", x.told(10), states);
        for (int back = 0; back <= states; back++) {
            Check.that(what + " changes nothing else, " + back + " STATES back", seen(asked(asks), back).equals(unasked.get(back)));
        }
    }

    private Supplier<OrganBarrel> asked(ToIntFunction<OrganBarrel> asks) {
        return () -> {
            OrganBarrel x = makes.get();
            asks.applyAsInt(x);
            return x;
        };
    }

    private Twins typed(String text) {
        return new Twins(name, () -> {
            OrganBarrel x = makes.get();
            x.clear();
            for (int i = 0; i < text.length(); i++) {
                x.type(text.charAt(i));
            }
            return x;
        });
    }

    private static int[] countsAndCause(OrganBarrel x) {
        return new int[] {x.told(0), x.told(1), x.told(2), x.why(0), x.why(1), x.why(2), x.why(3)};
    }

    /** All that can be seen of an object so many STATES back, but for how often refused, CAUSE and how many STATES. */
    static List<Integer> seen(Supplier<OrganBarrel> makes, int back) {
        List<Integer> all = new ArrayList<>();
        List<BiConsumer<OrganBarrel, List<Integer>>> parts = List.of(Twins::barrelAndTunes, Twins::notes, Twins::pins,
                Twins::bridges, Twins::sounds, Twins::gapsAndText);
        for (BiConsumer<OrganBarrel, List<Integer>> part : parts) {
            OrganBarrel x = makes.get();
            for (int i = 0; i < back; i++) {
                x.back();
            }
            part.accept(x, all);
        }
        return all;
    }

    private static void barrelAndTunes(OrganBarrel x, List<Integer> all) {
        for (int what = 3; what <= 9; what++) {
            all.add(x.told(what));
        }
        for (int t = 0; t < x.told(6); t++) {
            for (int what = 0; what <= 7; what++) {
                all.add(x.tune(t, what));
            }
            all.add(x.fits(t));
            all.add(x.wrong(t));
        }
        for (int what = 0; what <= 6; what++) {
            all.add(x.all(what));
        }
        for (int track = 0; track < x.told(5) * x.told(6); track++) {
            all.add(x.free(track));
        }
    }

    private static void notes(OrganBarrel x, List<Integer> all) {
        for (int t = 0; t < x.told(6); t++) {
            int count = x.tune(t, 1);
            for (int i = 0; i < count; i++) {
                for (int what = 0; what <= 4; what++) {
                    all.add(x.noteOf(t, i, what));
                }
            }
        }
    }

    private static void pins(OrganBarrel x, List<Integer> all) {
        for (int t = 0; t < x.told(6); t++) {
            int count = x.tune(t, 6);
            for (int i = 0; i < count; i++) {
                for (int what = 0; what <= 5; what++) {
                    all.add(x.pin(t, i, what));
                }
            }
        }
    }

    private static void bridges(OrganBarrel x, List<Integer> all) {
        int count = x.all(2);
        for (int i = 0; i < count; i++) {
            for (int what = 0; what <= 5; what++) {
                all.add(x.bridge(i, what));
            }
        }
    }

    private static void sounds(OrganBarrel x, List<Integer> all) {
        int angles = x.told(4);
        for (int t = 0; t < x.told(6); t++) {
            for (int a = 0; a < angles; a++) {
                all.add(x.heard(t, a));
                all.add(x.tells(t, a));
            }
        }
    }

    /** The object is used up by it: what THE TEXT has is seen from what it does. */
    private static void gapsAndText(OrganBarrel x, List<Integer> all) {
        for (int k = 0; k < x.told(5); k++) {
            int v = x.gap(k, 0);
            all.add(v);
            x.gap(k, v);
        }
        all.add(x.reads());
        barrelAndTunes(x, all);
        notes(x, all);
    }
}
