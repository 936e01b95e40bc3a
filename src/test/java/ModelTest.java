import java.util.Random;

/**
 * Runs of 512 calls drawn from fixed seeds: every answer is that of the model, which says the document in another way. Then
 * runs of two objects at once, call by call in turn: neither answers by what the other one was told.
 */
public final class ModelTest {
    private final Random random;
    private final OrganBarrel x = new OrganBarrel();
    private final Model m = new Model();
    private final int seed;
    private int calls = 0;

    private ModelTest(int seed) {
        this.seed = seed;
        this.random = new Random(seed);
    }

    public static void main(String[] args) {
        int runs = args.length > 0 ? Integer.parseInt(args[0]) : 250;
        for (int seed = 1; seed <= runs; seed++) {
            new ModelTest(seed).run();
        }
        for (int seed = 1; seed <= runs / 5; seed++) {
            runInTurn(new ModelTest(-seed), new ModelTest(-seed - runs));
        }
        Check.end();
    }

    private void run() {
        begin();
        while (calls < 500) {
            step();
        }
        due("digest", x.digest(), m.digest());
    }

    private static void runInTurn(ModelTest one, ModelTest other) {
        one.begin();
        other.begin();
        while (one.calls < 500 || other.calls < 500) {
            ModelTest next = one.calls < other.calls ? one : other;
            next.step();
        }
        one.due("digest", one.x.digest(), one.m.digest());
        other.due("digest", other.x.digest(), other.m.digest());
    }

    private void begin() {
        if (random.nextInt(4) > 0) {
            int r = pick(6, 24), k = pick(1, 6), t = pick(2, 3);
            due("barrel " + r + " " + k + " " + t, x.barrel(r, k, t), m.barrel(r, k, t));
        }
    }

    private int pick(int least, int most) {
        return least + random.nextInt(most - least + 1);
    }

    /** Mostly a number as told; now and then one just outside, or far outside. */
    private int some(int least, int most) {
        int wild = random.nextInt(60);
        if (wild == 0) {
            return least - 1;
        }
        if (wild == 1) {
            return most + 1;
        }
        if (wild == 2) {
            return random.nextBoolean() ? Integer.MIN_VALUE : Integer.MAX_VALUE;
        }
        return most < least ? least : pick(least, most);
    }

    private void due(String call, long got, long want) {
        calls++;
        Check.due("seed " + seed + ", call " + calls + ": " + call, got, want);
    }

    private void step() {
        int t = some(0, m.s.t - 1);
        int kind = random.nextInt(100);
        if (kind < 30) {
            writeTunes(t);
        } else if (kind < 50) {
            pinTunes(t);
        } else if (kind < 57) {
            setUp();
        } else if (kind < 65) {
            play(t);
        } else if (kind < 92) {
            ask(t);
        } else if (kind < 97) {
            due("back", x.back(), m.back());
        } else {
            readText();
        }
        if (calls % 8 == 0) {
            due("digest", x.digest(), m.digest());
        }
    }

    private void writeTunes(int t) {
        int own = t >= 0 && t < m.s.t ? t : 0;
        int l = m.s.ticks[own];
        switch (random.nextInt(14)) {
            case 0: {
                int n = random.nextInt(3) == 0 ? m.s.r : some(1, m.s.r);
                due("ticks " + t + " " + n, x.ticks(t, n), m.ticks(t, n));
                return;
            }
            case 1: {
                int i = some(0, m.s.notes.get(own).size() - 1);
                due("drop " + t + " " + i, x.drop(t, i), m.drop(t, i));
                return;
            }
            case 2: {
                int d = some(0, m.s.r - 1);
                due("shift " + t + " " + d, x.shift(t, d), m.shift(t, d));
                return;
            }
            default: {
                int k = some(0, m.s.k - 1);
                int s = some(0, l - 1);
                int n = random.nextInt(3) > 0 ? 1 : some(1, Math.max(1, l - s));
                due("note " + t + " " + k + " " + s + " " + n, x.note(t, k, s, n), m.note(t, k, s, n));
            }
        }
    }

    private void pinTunes(int t) {
        switch (random.nextInt(8)) {
            case 0: due("off " + t, x.off(t), m.off(t)); return;
            case 1: due("settles", x.settles(), m.settles()); return;
            case 2:
            case 3: fit(t); return;
            default: due("pins " + t, x.pins(t), m.pins(t));
        }
        for (int what = 0; what <= 3; what++) {
            due("why " + what, x.why(what), m.why(what));
        }
    }

    private void fit(int t) {
        int d = m.fits(t);
        due("fits " + t, x.fits(t), d);
        if (d >= 0) {
            due("shift " + t + " " + d, x.shift(t, d), m.shift(t, d));
            due("pins " + t, x.pins(t), m.pins(t));
        }
    }

    private void setUp() {
        int k = some(0, m.s.k - 1);
        switch (random.nextInt(16)) {
            case 0: {
                int r = some(6, 24), keys = some(1, 6), t = some(2, 3);
                due("barrel " + r + " " + keys + " " + t, x.barrel(r, keys, t), m.barrel(r, keys, t));
                return;
            }
            case 1: case 2: case 3: case 4: {
                int v = some(0, 3);
                due("side " + v, x.side(v), m.side(v));
                return;
            }
            case 5: case 6: case 7: case 8: case 9: {
                int v = random.nextInt(3) > 0 ? 0 : some(0, 6);
                due("gap " + k + " " + v, x.gap(k, v), m.gap(k, v));
                return;
            }
            default: {
                int what = some(0, 2);
                int v = what == 0 ? some(0, 2) : what == 1 ? random.nextInt(2) : random.nextBoolean() ? some(1, 99) : some(1, 9);
                due("sets " + what + " " + v, x.sets(what, v), m.sets(what, v));
            }
        }
    }

    private void play(int t) {
        if (random.nextInt(4) == 0) {
            int i = some(0, 8);
            due("mends " + i, x.mends(i), m.mends(i));
            return;
        }
        int n = some(1, 50);
        due("plays " + t + " " + n, x.plays(t, n), m.plays(t, n));
    }

    private void ask(int t) {
        int what = some(0, 5);
        int i = some(0, 11);
        switch (random.nextInt(12)) {
            case 0: due("tune " + t + " " + what, x.tune(t, what), m.tune(t, what)); return;
            case 1: due("noteOf " + t + " " + i + " " + what, x.noteOf(t, i, what), m.noteOf(t, i, what)); return;
            case 2: due("fits " + t, x.fits(t), m.fits(t)); return;
            case 3: due("pin " + t + " " + i + " " + what, x.pin(t, i, what), m.pin(t, i, what)); return;
            case 4: due("why " + what, x.why(what), m.why(what)); return;
            case 5: due("all " + (what + 1), x.all(what + 1), m.all(what + 1)); return;
            case 6: due("bridge " + i + " " + what, x.bridge(i, what), m.bridge(i, what)); return;
            case 7: {
                int track = some(0, m.s.t * m.s.k - 1);
                due("free " + track, x.free(track), m.free(track));
                return;
            }
            case 8: {
                int a = some(0, m.s.r - 1);
                due("heard " + t + " " + a, x.heard(t, a), m.heard(t, a));
                return;
            }
            case 9: {
                int s = some(0, m.s.r - 1);
                due("tells " + t + " " + s, x.tells(t, s), m.tells(t, s));
                return;
            }
            case 10: due("wrong " + t, x.wrong(t), m.wrong(t)); return;
            default: due("told " + 2 * what, x.told(2 * what), m.told(2 * what));
        }
    }

    private void readText() {
        if (random.nextInt(5) > 0) {
            due("clear", x.clear(), m.clear());
        }
        StringBuilder text = new StringBuilder();
        int orders = pick(1, 4);
        for (int i = 0; i < orders; i++) {
            text.append(order()).append(blank()).append(";").append(blank());
        }
        if (random.nextInt(4) == 0) {
            spoil(text);
        }
        for (int i = 0; i < text.length() && calls < 490; i++) {
            int c = random.nextInt(400) == 0 ? some(128, 300) : text.charAt(i);
            due("type " + c, x.type(c), m.type(c));
        }
        due("reads '" + m.text + "'", x.reads(), m.reads());
        for (int what = 0; what <= 3; what++) {
            due("why " + what, x.why(what), m.why(what));
        }
    }

    private String blank() {
        return " ".repeat(Math.max(0, random.nextInt(8) - 5));
    }

    private String order() {
        String t = number(0, m.s.t - 1);
        switch (random.nextInt(9)) {
            case 0: return "h" + blank() + t + gapBetween() + number(0, m.s.r - 1);
            case 1: return "o" + blank() + t;
            case 2: return "g" + blank() + number(0, m.s.k - 1) + gapBetween() + number(0, 6);
            case 3: return "e" + blank() + number(0, 3);
            case 4:
            case 5: return "p" + blank() + t;
            default: return ticksOrder(t);
        }
    }

    private String ticksOrder(String t) {
        int l = pick(1, m.s.r);
        StringBuilder order = new StringBuilder("t" + blank() + t + gapBetween() + (random.nextInt(9) == 0 ? number(1, m.s.r) : l));
        int notes = random.nextInt(4);
        for (int i = 0; i < notes; i++) {
            int s = random.nextInt(l);
            order.append(blank()).append(i == 0 ? ":" : ",").append(blank()).append(number(0, m.s.k - 1)).append(gapBetween());
            order.append(s).append(gapBetween()).append(number(1, Math.min(2, l - s)));
        }
        return order.toString();
    }

    private String gapBetween() {
        return " " + blank();
    }

    private String number(int least, int most) {
        int n = random.nextInt(20) == 0 ? most + 1 : pick(least, most);
        return n < 10 && random.nextInt(8) == 0 ? "0" + n : String.valueOf(n);
    }

    private void spoil(StringBuilder text) {
        String signs = "thpoge0123456789,:;  xT\t";
        int at = random.nextInt(text.length());
        char c = signs.charAt(random.nextInt(signs.length()));
        switch (random.nextInt(4)) {
            case 0: text.setCharAt(at, c); return;
            case 1: text.deleteCharAt(at); return;
            case 2: text.setLength(at); return;
            default: text.insert(at, c);
        }
    }
}
