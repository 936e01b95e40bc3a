import java.util.ArrayList;
import java.util.Collections;
import java.util.Comparator;
import java.util.List;
import java.util.Set;
import java.util.TreeSet;
import java.util.regex.Matcher;
import java.util.regex.Pattern;

/**
 * The document once more, written as it is worded and in another way than the class: whole copies as states, sets of
 * angles, every choice of shifts tried. ModelTest compares the two.
 */
final class Model {
    static final int NONE = -1, BAD = -2, NO = -3, FULL = -4;

    record Note(int key, int start, int length) {
    }

    static final class Pin {
        int tune, key, begin, holds, wear;

        Pin(int tune, int key, int begin, int holds) {
            this.tune = tune;
            this.key = key;
            this.begin = begin;
            this.holds = holds;
        }
    }

    static final class Pinned {
        int ticks, shift, way;
        List<Note> notes = new ArrayList<>();
        List<Pin> pins = new ArrayList<>();

        Pinned copy() {
            Pinned c = new Pinned();
            c.ticks = ticks;
            c.shift = shift;
            c.way = way;
            c.notes.addAll(notes);
            for (Pin p : pins) {
                Pin q = new Pin(p.tune, p.key, p.begin, p.holds);
                q.wear = p.wear;
                c.pins.add(q);
            }
            return c;
        }
    }

    static final class State {
        int r, k, t, way = 0, side = 1, limit = 20;
        int[] gap, ticks, shift;
        List<List<Note>> notes = new ArrayList<>();
        Pinned[] pinned;

        State(int r, int k, int t) {
            this.r = r;
            this.k = k;
            this.t = t;
            gap = new int[k];
            java.util.Arrays.fill(gap, 1);
            ticks = new int[t];
            java.util.Arrays.fill(ticks, r);
            shift = new int[t];
            pinned = new Pinned[t];
            for (int i = 0; i < t; i++) {
                notes.add(new ArrayList<>());
            }
        }

        State copy() {
            State c = new State(r, k, t);
            c.way = way;
            c.side = side;
            c.limit = limit;
            c.gap = gap.clone();
            c.ticks = ticks.clone();
            c.shift = shift.clone();
            for (int i = 0; i < t; i++) {
                c.notes.get(i).addAll(notes.get(i));
                c.pinned[i] = pinned[i] == null ? null : pinned[i].copy();
            }
            return c;
        }
    }

    State s = new State(24, 4, 3);
    final List<State> states = new ArrayList<>();
    final int[] refusals = new int[3];
    int[] cause = {0, 0, 0, NONE};
    String text = "";

    // ---- counting and states

    private int refuse(int code) {
        refusals[code == BAD ? 0 : code == NO ? 1 : 2]++;
        return code;
    }

    private int did(State before, int answer) {
        if (answer < 0) {
            s = before;
            return refuse(answer);
        }
        keep(before);
        return answer;
    }

    private void keep(State before) {
        states.add(before);
        if (states.size() > 5) {
            states.remove(0);
        }
    }

    // ---- the words of the document

    private int mod(int a) {
        return ((a % s.r) + s.r) % s.r;
    }

    private int angle(int tick, int ticks, int way) {
        double exact = (double) (tick * s.r) / ticks;
        return (int) (way == 0 ? Math.floor(exact) : way == 1 ? Math.floor(exact + 0.5) : Math.ceil(exact));
    }

    private Pinned lay(int t, int shift) {
        Pinned p = new Pinned();
        p.ticks = s.ticks[t];
        p.shift = shift;
        p.way = s.way;
        p.notes.addAll(s.notes.get(t));
        for (Note n : p.notes) {
            int from = angle(n.start, p.ticks, p.way);
            int to = angle(n.start + n.length, p.ticks, p.way);
            p.pins.add(new Pin(t, n.key, mod(from + shift), to - from));
        }
        return p;
    }

    private int track(Pin p) {
        return s.t * p.key + p.tune;
    }

    private int free(Pinned all, Pin p) {
        int way = s.r;
        for (int d = s.r; d >= 1; d--) {
            for (Pin q : all.pins) {
                if (q != p && track(q) == track(p) && mod(p.begin + d) == q.begin) {
                    way = d;
                }
            }
        }
        return way - p.holds;
    }

    private static boolean alike(Pin a, Pin b) {
        return a.begin == b.begin && a.holds == b.holds;
    }

    private boolean apart(Pin a, Pin b) {
        return a.begin != b.begin && mod(b.begin - a.begin) >= a.holds + s.side
                && mod(a.begin - b.begin) >= b.holds + s.side;
    }

    private boolean neither(Pin a, Pin b) {
        return Math.abs(track(a) - track(b)) == 1 && !alike(a, b) && !apart(a, b);
    }

    private int[] refusalOne(Pinned p) {
        for (int i = 0; i < p.pins.size(); i++) {
            int free = free(p, p.pins.get(i));
            if (free < s.gap[p.pins.get(i).key]) {
                return new int[] {1, i, free, NONE};
            }
        }
        return null;
    }

    private int[] refusalTwo(int t, Pinned p, Pinned[] others) {
        for (int i = 0; i < p.pins.size(); i++) {
            for (int u = 0; u < s.t; u++) {
                for (int j = 0; u != t && others[u] != null && j < others[u].pins.size(); j++) {
                    if (neither(p.pins.get(i), others[u].pins.get(j))) {
                        return new int[] {2, i, 16 * u + j, NONE};
                    }
                }
            }
        }
        return null;
    }

    private Set<Integer> held(Pin p) {
        Set<Integer> angles = new TreeSet<>();
        for (int i = 0; i < p.holds; i++) {
            angles.add(mod(p.begin + i));
        }
        return angles;
    }

    private List<Pin> lyingPins() {
        List<Pin> all = new ArrayList<>();
        for (Pinned p : s.pinned) {
            if (p != null) {
                all.addAll(p.pins);
            }
        }
        return all;
    }

    private List<List<Pin>> bridges() {
        List<List<Pin>> found = new ArrayList<>();
        for (Pin p : lyingPins()) {
            found.add(new ArrayList<>(List.of(p)));
        }
        boolean merged = true;
        while (merged) {
            merged = false;
            for (int a = 0; a < found.size() && !merged; a++) {
                for (int b = a + 1; b < found.size() && !merged; b++) {
                    if (hang(found.get(a), found.get(b))) {
                        found.get(a).addAll(found.remove(b));
                        merged = true;
                    }
                }
            }
        }
        found.sort(Comparator.<List<Pin>>comparingInt(b -> b.get(0).begin).thenComparingInt(this::firstTrack));
        return found;
    }

    private boolean hang(List<Pin> a, List<Pin> b) {
        for (Pin p : a) {
            for (Pin q : b) {
                if (alike(p, q) && Math.abs(track(p) - track(q)) == 1) {
                    return true;
                }
            }
        }
        return false;
    }

    private int firstTrack(List<Pin> bridge) {
        List<Integer> tracks = new ArrayList<>();
        for (Pin p : bridge) {
            tracks.add(track(p));
        }
        return Collections.min(tracks);
    }

    private static int wear(List<Pin> bridge) {
        int sum = 0;
        for (Pin p : bridge) {
            sum += p.wear;
        }
        return sum;
    }

    private int unheard(List<Pin> bridge) {
        return Math.min(bridge.get(0).holds, wear(bridge) / s.limit);
    }

    private int heardAt(int t, int a) {
        int bits = 0;
        for (List<Pin> bridge : bridges()) {
            for (Pin p : bridge) {
                for (int i = 0; i < p.holds - unheard(bridge); i++) {
                    if (p.tune == t && mod(p.begin + i) == a) {
                        bits |= 1 << p.key;
                    }
                }
            }
        }
        return bits;
    }

    private int longest(Set<Integer> held) {
        int best = 0;
        for (int from = 0; from < s.r; from++) {
            int n = 0;
            while (n < s.r && !held.contains(mod(from + n))) {
                n++;
            }
            best = Math.max(best, n);
        }
        return best;
    }

    private boolean tune(int t) {
        return t >= 0 && t < s.t;
    }

    // ---- what changes, without counting

    private int doTicks(int t, int l) {
        if (!tune(t) || l < 1 || l > s.r) {
            return BAD;
        }
        int were = s.notes.get(t).size();
        s.notes.get(t).clear();
        s.ticks[t] = l;
        return were;
    }

    private int doNote(int t, int k, int start, int l) {
        if (!tune(t) || k < 0 || k >= s.k || start < 0 || start >= s.ticks[t] || l < 1 || l > s.ticks[t] - start) {
            return BAD;
        }
        for (Note n : s.notes.get(t)) {
            for (int tick = start; tick < start + l; tick++) {
                if (n.key == k && tick >= n.start && tick < n.start + n.length) {
                    return NO;
                }
            }
        }
        if (s.notes.get(t).size() == 12) {
            return FULL;
        }
        s.notes.get(t).add(new Note(k, start, l));
        return s.notes.get(t).size() - 1;
    }

    private int doShift(int t, int d) {
        if (!tune(t) || d < 0 || d >= s.r) {
            return BAD;
        }
        int was = s.shift[t];
        s.shift[t] = d;
        return was;
    }

    private int doGap(int k, int v) {
        if (k < 0 || k >= s.k || v < 0 || v > 6) {
            return BAD;
        }
        int was = s.gap[k];
        s.gap[k] = v;
        return was;
    }

    private int doSide(int v) {
        if (v < 0 || v > 3) {
            return BAD;
        }
        int was = s.side;
        s.side = v;
        return was;
    }

    private int doPins(int t) {
        if (!tune(t)) {
            return BAD;
        }
        if (s.notes.get(t).isEmpty()) {
            cause = new int[] {4, 0, 0, NONE};
            return NO;
        }
        Pinned p = lay(t, s.shift[t]);
        int[] why = refusalOne(p);
        if (why == null) {
            why = refusalTwo(t, p, s.pinned);
        }
        if (why != null) {
            cause = why;
            return NO;
        }
        s.pinned[t] = p;
        return p.pins.size();
    }

    private int doOff(int t) {
        if (!tune(t)) {
            return BAD;
        }
        if (s.pinned[t] == null) {
            return NO;
        }
        int had = s.pinned[t].pins.size();
        s.pinned[t] = null;
        return had;
    }

    // ---- the calls

    int barrel(int r, int k, int t) {
        if (r < 6 || r > 24 || k < 1 || k > 6 || t < 2 || t > 3) {
            return refuse(BAD);
        }
        int was = s.r;
        keep(s);
        s = new State(r, k, t);
        return was;
    }

    int sets(int what, int v) {
        State before = s.copy();
        int was = BAD;
        if (what == 0 && v >= 0 && v <= 2) {
            was = s.way;
            s.way = v;
        } else if (what == 1) {
            was = doSide(v);
        } else if (what == 2 && v >= 1 && v <= 99) {
            was = s.limit;
            s.limit = v;
        }
        return did(before, was);
    }

    int gap(int k, int v) {
        State before = s.copy();
        return did(before, doGap(k, v));
    }

    int side(int v) {
        return sets(1, v);
    }

    int ticks(int t, int l) {
        State before = s.copy();
        return did(before, doTicks(t, l));
    }

    int note(int t, int k, int start, int l) {
        State before = s.copy();
        return did(before, doNote(t, k, start, l));
    }

    int drop(int t, int i) {
        if (!tune(t) || i < 0 || i >= s.notes.get(t).size()) {
            return refuse(BAD);
        }
        keep(s.copy());
        s.notes.get(t).remove(i);
        return s.notes.get(t).size();
    }

    int shift(int t, int d) {
        State before = s.copy();
        return did(before, doShift(t, d));
    }

    int tune(int t, int what) {
        if (!tune(t) || what < 0 || what > 7) {
            return refuse(BAD);
        }
        Pinned p = s.pinned[t];
        int[] loose = {s.ticks[t], s.notes.get(t).size(), s.shift[t], p == null ? 0 : 1};
        if (what < 4) {
            return loose[what];
        }
        return p == null ? NONE : new int[] {p.ticks, p.shift, p.pins.size(), p.way}[what - 4];
    }

    int noteOf(int t, int i, int what) {
        if (!tune(t) || i < 0 || i >= s.notes.get(t).size() || what < 0 || what > 4) {
            return refuse(BAD);
        }
        Note n = s.notes.get(t).get(i);
        Pin p = lay(t, s.shift[t]).pins.get(i);
        return new int[] {n.key, n.start, n.length, p.begin, p.holds}[what];
    }

    int pins(int t) {
        State before = s.copy();
        return did(before, doPins(t));
    }

    int off(int t) {
        State before = s.copy();
        return did(before, doOff(t));
    }

    int fits(int t) {
        if (!tune(t)) {
            return refuse(BAD);
        }
        for (int d = 0; d < s.r && !s.notes.get(t).isEmpty(); d++) {
            Pinned p = lay(t, d);
            if (refusalOne(p) == null && refusalTwo(t, p, s.pinned) == null) {
                return d;
            }
        }
        return NONE;
    }

    int settles() {
        boolean any = false;
        for (int t = 0; t < s.t; t++) {
            any |= !s.notes.get(t).isEmpty();
        }
        if (!any) {
            cause = new int[] {4, 0, 0, NONE};
            return refuse(NO);
        }
        for (int t = 0; t < s.t; t++) {
            int[] why = refusalOne(lay(t, 0));
            if (why != null) {
                cause = why;
                return refuse(NO);
            }
        }
        State before = s.copy();
        for (int sum = 0; sum <= 3 * (s.r - 1); sum++) {
            for (int a = 0; a < tries(0); a++) {
                for (int b = 0; b < tries(1); b++) {
                    int c = sum - a - b;
                    if (c >= 0 && c < tries(2) && settle(new int[] {a, b, c})) {
                        keep(before);
                        return sum;
                    }
                }
            }
        }
        cause = new int[] {3, 0, 0, NONE};
        return refuse(NO);
    }

    private int tries(int t) {
        return t < s.t && !s.notes.get(t).isEmpty() ? s.r : 1;
    }

    private boolean settle(int[] shifts) {
        Pinned[] all = new Pinned[s.t];
        for (int t = 0; t < s.t; t++) {
            all[t] = s.notes.get(t).isEmpty() ? null : lay(t, shifts[t]);
            if (all[t] != null && refusalTwo(t, all[t], all) != null) {
                return false;
            }
        }
        s.pinned = all;
        for (int t = 0; t < s.t; t++) {
            if (all[t] != null) {
                s.shift[t] = shifts[t];
            }
        }
        return true;
    }

    int pin(int t, int i, int what) {
        if (!tune(t) || i < 0 || what < 0 || what > 5) {
            return refuse(BAD);
        }
        Pinned all = s.pinned[t];
        if (all == null || i >= all.pins.size()) {
            return refuse(NO);
        }
        Pin p = all.pins.get(i);
        int number = 0;
        List<List<Pin>> bridges = bridges();
        while (!bridges.get(number).contains(p)) {
            number++;
        }
        return new int[] {p.key, p.begin, p.holds, p.wear, number, free(all, p)}[what];
    }

    int why(int what) {
        if (what < 0 || what > 3) {
            refuse(BAD);
            return -10;
        }
        return cause[what];
    }

    int all(int what) {
        if (what < 0 || what > 6) {
            return refuse(BAD);
        }
        int tunes = 0;
        for (int t = 0; t < s.t; t++) {
            tunes += s.pinned[t] == null ? 0 : 1 << t;
        }
        int shared = 0;
        int worn = 0;
        for (List<Pin> b : bridges()) {
            shared += b.size() > 1 ? 1 : 0;
            worn += wear(b) >= s.limit ? 1 : 0;
        }
        Set<Integer> tracks = new TreeSet<>();
        Set<Integer> held = new TreeSet<>();
        for (Pin p : lyingPins()) {
            tracks.add(track(p));
            held.addAll(held(p));
        }
        return new int[] {tunes, lyingPins().size(), bridges().size(), shared, worn, s.t * s.k - tracks.size(),
            longest(held)}[what];
    }

    int bridge(int i, int what) {
        if (i < 0 || what < 0 || what > 5) {
            return refuse(BAD);
        }
        List<List<Pin>> bridges = bridges();
        if (i >= bridges.size()) {
            return NONE;
        }
        List<Pin> b = bridges.get(i);
        return new int[] {b.get(0).begin, b.get(0).holds, firstTrack(b), b.size(), wear(b), unheard(b)}[what];
    }

    int free(int x) {
        if (x < 0 || x >= s.t * s.k) {
            return refuse(BAD);
        }
        Set<Integer> held = new TreeSet<>();
        for (Pin p : lyingPins()) {
            if (track(p) == x) {
                held.addAll(held(p));
            }
        }
        return longest(held);
    }

    int plays(int t, int n) {
        if (!tune(t) || n < 1 || n > 50) {
            return refuse(BAD);
        }
        if (s.pinned[t] == null) {
            return refuse(NO);
        }
        keep(s.copy());
        for (Pin p : s.pinned[t].pins) {
            p.wear += n;
        }
        int worn = 0;
        for (List<Pin> b : bridges()) {
            boolean its = false;
            for (Pin p : b) {
                its |= p.tune == t;
            }
            worn += its && wear(b) >= s.limit ? 1 : 0;
        }
        return worn;
    }

    int mends(int i) {
        if (i < 0) {
            return refuse(BAD);
        }
        if (i >= bridges().size()) {
            return refuse(NO);
        }
        keep(s.copy());
        int was = wear(bridges().get(i));
        for (Pin p : bridges().get(i)) {
            p.wear = 0;
        }
        return was;
    }

    int heard(int t, int a) {
        if (!tune(t) || a < 0 || a >= s.r) {
            return refuse(BAD);
        }
        return s.pinned[t] == null ? refuse(NO) : heardAt(t, a);
    }

    int tells(int t, int tick) {
        if (!tune(t) || tick < 0) {
            return refuse(BAD);
        }
        Pinned p = s.pinned[t];
        return p == null || tick >= p.ticks ? refuse(NO) : heardAt(t, mod(angle(tick, p.ticks, p.way) + p.shift));
    }

    int wrong(int t) {
        if (!tune(t)) {
            return refuse(BAD);
        }
        Pinned p = s.pinned[t];
        if (p == null) {
            return refuse(NO);
        }
        int wrong = 0;
        for (int tick = 0; tick < p.ticks; tick++) {
            int told = 0;
            for (Note n : p.notes) {
                told |= tick >= n.start && tick < n.start + n.length ? 1 << n.key : 0;
            }
            wrong += told != heardAt(t, mod(angle(tick, p.ticks, p.way) + p.shift)) ? 1 : 0;
        }
        return wrong;
    }

    int type(int c) {
        if (c < 0 || c > 127) {
            return refuse(BAD);
        }
        if (text.length() == 120) {
            return refuse(FULL);
        }
        text += (char) c;
        return text.length();
    }

    int clear() {
        int had = text.length();
        text = "";
        return had;
    }

    private static final String N = "[0-9][0-9]?";
    private static final String NOTE = N + " +" + N + " +" + N;
    private static final Pattern ORDERS = Pattern.compile("(?: *(?:t *" + N + " +" + N + "(?: *: *" + NOTE + "(?: *, *"
            + NOTE + ")*)?|h *" + N + " +" + N + "|p *" + N + "|o *" + N + "|g *" + N + " +" + N + "|e *" + N + ") *;)+ *");

    /** The FAULT: the first byte with which no beginning of a right text ends. */
    private int fault() {
        for (int i = 0; i < text.length(); i++) {
            Matcher m = ORDERS.matcher(text.substring(0, i + 1));
            if (!m.matches() && !m.hitEnd()) {
                return i >= 2 && text.substring(i - 2, i + 1).matches("[0-9]{3}") ? i - 2 : i;
            }
        }
        return ORDERS.matcher(text).matches() ? NONE : text.length();
    }

    int reads() {
        int fault = fault();
        if (fault != NONE) {
            return -10 - fault;
        }
        State before = s.copy();
        String[] orders = text.trim().split(";");
        for (int i = 0; i < orders.length; i++) {
            int[] causeBefore = cause;
            int got = order(orders[i].trim());
            if (got < 0) {
                if (cause == causeBefore) {
                    cause = new int[] {got == BAD ? 5 : got == NO ? 6 : 7, 0, 0, NONE};
                }
                cause[3] = i;
                s = before;
                return -1000 - i;
            }
        }
        keep(before);
        return orders.length;
    }

    private int order(String order) {
        Matcher m = Pattern.compile("[0-9]+").matcher(order);
        List<Integer> n = new ArrayList<>();
        while (m.find()) {
            n.add(Integer.valueOf(m.group()));
        }
        switch (order.charAt(0)) {
            case 'h': return doShift(n.get(0), n.get(1));
            case 'p': return doPins(n.get(0));
            case 'o': return doOff(n.get(0));
            case 'g': return doGap(n.get(0), n.get(1));
            case 'e': return doSide(n.get(0));
            default: break;
        }
        int got = doTicks(n.get(0), n.get(1));
        for (int i = 2; i < n.size() && got >= 0; i += 3) {
            got = doNote(n.get(0), n.get(i), n.get(i + 1), n.get(i + 2));
        }
        return got;
    }

    int back() {
        if (states.isEmpty()) {
            return refuse(NO);
        }
        s = states.remove(states.size() - 1);
        return states.size();
    }

    int told(int what) {
        if (what < 0 || what > 10) {
            return refuse(BAD);
        }
        return new int[] {refusals[0], refusals[1], refusals[2], text.length(), s.r, s.k, s.t, s.way, s.side, s.limit,
            states.size()}[what];
    }

    long digest() {
        List<Integer> v = new ArrayList<>();
        for (int i = 0; i <= 10; i++) {
            v.add(told(i));
        }
        for (int i = 0; i <= 3; i++) {
            v.add(why(i));
        }
        for (int g : s.gap) {
            v.add(g);
        }
        for (int t = 0; t < s.t; t++) {
            for (int i = 0; i <= 7; i++) {
                v.add(tune(t, i));
            }
            for (int n = 0; n < s.notes.get(t).size(); n++) {
                for (int i = 0; i <= 4; i++) {
                    v.add(noteOf(t, n, i));
                }
            }
        }
        for (int i = 0; i <= 6; i++) {
            v.add(all(i));
        }
        for (int b = 0; b < bridges().size(); b++) {
            for (int i = 0; i <= 5; i++) {
                v.add(bridge(b, i));
            }
        }
        long h = 2243;
        for (int x : v) {
            h = 31 * h + x;
        }
        return h;
    }
}
