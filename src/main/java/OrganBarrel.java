import java.util.Arrays;

/** A barrel organ's barrel: tunes of notes turned into pins, what is heard of them, and why something could not be done. */
public final class OrganBarrel {
    public static final int NONE = -1, BAD = -2, NO = -3, FULL = -4;

    private static final int ANGLES_LEAST = 6, ANGLES_MOST = 24;
    private static final int KEYS_MOST = 6, KEYS_FIRST = 4;
    private static final int TUNES_LEAST = 2, TUNES_MOST = 3;
    private static final int NOTES_MOST = 12;
    private static final int PINS_MOST = TUNES_MOST * NOTES_MOST;
    private static final int TRACKS_MOST = TUNES_MOST * KEYS_MOST;
    private static final int WAY_NEAREST = 1, WAY_NEXT = 2, WAY_MOST = 2;
    private static final int SIDE_FIRST = 1, SIDE_MOST = 3;
    private static final int LIMIT_FIRST = 20, LIMIT_MOST = 99;
    private static final int GAP_FIRST = 1, GAP_MOST = 6;
    private static final int ROUNDS_MOST = 50;
    private static final int STATES_MOST = 5;
    private static final int TEXT_MOST = 120, BYTE_MOST = 127;
    private static final int TOLD_MOST = 10, WHY_MOST = 3, TUNE_MOST = 7, NOTE_MOST = 4;
    private static final int PIN_MOST = 5, ALL_MOST = 6, BRIDGE_MOST = 5;
    private static final int FAULT_BASE = -10, ORDER_BASE = -1000, WHY_BAD = -10;

    private static final int TOO_SOON = 1, TOUCHING = 2, NO_SHIFTS = 3, NO_NOTES = 4;
    private static final int ORDER_BAD = 5, ORDER_NO = 6, ORDER_FULL = 7;

    private Barrel now;
    /** What the barrel was before the call that is under way: it becomes a STATE if the call is not refused. */
    private Barrel spare;
    private final Barrel[] kept;
    private int states;
    private final Pinner pinner;
    private final Bridges bridges;
    private final Cause cause;
    private final Text text;
    private int refusedBad;
    private int refusedNo;
    private int refusedFull;

    public OrganBarrel() {
        now = new Barrel();
        spare = new Barrel();
        kept = new Barrel[STATES_MOST];
        for (int i = 0; i < STATES_MOST; i++) {
            kept[i] = new Barrel();
        }
        pinner = new Pinner();
        bridges = new Bridges();
        cause = new Cause();
        text = new Text();
    }

    // ---- the barrel

    public int barrel(int r, int k, int t) {
        remember();
        return changed(now.build(r, k, t));
    }

    public int sets(int what, int v) {
        remember();
        return changed(now.adjust(what, v));
    }

    public int gap(int k, int v) {
        remember();
        return changed(now.setGap(k, v));
    }

    public int side(int v) {
        remember();
        return changed(now.adjust(1, v));
    }

    // ---- tunes

    public int ticks(int t, int l) {
        remember();
        return changed(now.setTicks(t, l));
    }

    public int note(int t, int k, int s, int l) {
        remember();
        return changed(now.addNote(t, k, s, l));
    }

    public int drop(int t, int i) {
        remember();
        return changed(now.removeNote(t, i));
    }

    public int shift(int t, int d) {
        remember();
        return changed(now.setShift(t, d));
    }

    public int tune(int t, int what) {
        if (!now.hasTune(t) || !within(what, 0, TUNE_MOST)) {
            return refused(BAD);
        }
        return now.tuneValue(t, what);
    }

    public int noteOf(int t, int i, int what) {
        if (!now.hasNote(t, i) || !within(what, 0, NOTE_MOST)) {
            return refused(BAD);
        }
        return now.noteValue(t, i, what);
    }

    // ---- pins

    public int pins(int t) {
        remember();
        return changed(pinner.putOn(now, t, cause));
    }

    public int off(int t) {
        remember();
        return changed(now.takeOff(t));
    }

    public int fits(int t) {
        if (!now.hasTune(t)) {
            return refused(BAD);
        }
        return pinner.leastShift(now, t);
    }

    public int settles() {
        remember();
        return changed(pinner.settleAll(now, cause));
    }

    public int pin(int t, int i, int what) {
        if (!now.hasTune(t) || i < 0 || !within(what, 0, PIN_MOST)) {
            return refused(BAD);
        }
        if (i >= now.pins[t].howMany()) {
            return refused(NO);
        }
        return pinValue(t, i, what);
    }

    public int why(int what) {
        if (!within(what, 0, WHY_MOST)) {
            refused(BAD);
            return WHY_BAD;
        }
        return cause.value(what);
    }

    // ---- bridges

    public int all(int what) {
        if (!within(what, 0, ALL_MOST)) {
            return refused(BAD);
        }
        bridges.find(now);
        return allValue(what);
    }

    public int bridge(int i, int what) {
        if (i < 0 || !within(what, 0, BRIDGE_MOST)) {
            return refused(BAD);
        }
        bridges.find(now);
        if (i >= bridges.count) {
            return NONE;
        }
        return bridges.value(i, what, now.limit);
    }

    public int free(int x) {
        if (!within(x, 0, now.tracks() - 1)) {
            return refused(BAD);
        }
        return longestFree(now.heldOn(x), now.angles);
    }

    // ---- playing

    public int plays(int t, int n) {
        remember();
        return changed(goRound(t, n));
    }

    public int mends(int i) {
        remember();
        return changed(mendBridge(i));
    }

    public int heard(int t, int a) {
        if (!now.hasTune(t) || !within(a, 0, now.angles - 1)) {
            return refused(BAD);
        }
        if (!now.pins[t].lying) {
            return refused(NO);
        }
        bridges.find(now);
        return keysHeard(t, a);
    }

    public int tells(int t, int s) {
        if (!now.hasTune(t) || s < 0) {
            return refused(BAD);
        }
        Pins pins = now.pins[t];
        if (!pins.lying || s >= pins.notes.ticks) {
            return refused(NO);
        }
        bridges.find(now);
        return keysHeard(t, pins.angleOfTick(s, now.angles));
    }

    public int wrong(int t) {
        if (!now.hasTune(t)) {
            return refused(BAD);
        }
        if (!now.pins[t].lying) {
            return refused(NO);
        }
        bridges.find(now);
        return wrongTicks(t);
    }

    // ---- texts

    public int type(int c) {
        if (!within(c, 0, BYTE_MOST)) {
            return refused(BAD);
        }
        if (text.length >= TEXT_MOST) {
            return refused(FULL);
        }
        return text.append(c);
    }

    public int clear() {
        int had = text.length;
        text.length = 0;
        return had;
    }

    public int reads() {
        int fault = text.parse();
        if (fault != NONE) {
            return FAULT_BASE - fault;
        }
        remember();
        for (int i = 0; i < text.orders; i++) {
            int answer = obey(i);
            if (answer < 0) {
                blame(i, answer);
                now.copyFrom(spare);
                return ORDER_BASE - i;
            }
        }
        keepSpare();
        return text.orders;
    }

    public int back() {
        if (states < 1) {
            return refused(NO);
        }
        states--;
        Barrel left = now;
        now = kept[states];
        kept[states] = left;
        return states;
    }

    public int told(int what) {
        if (!within(what, 0, TOLD_MOST)) {
            return refused(BAD);
        }
        return toldValue(what);
    }

    public long digest() {
        bridges.find(now);
        long h = 2243;
        for (int what = 0; what <= TOLD_MOST; what++) {
            h = 31 * h + toldValue(what);
        }
        for (int what = 0; what <= WHY_MOST; what++) {
            h = 31 * h + cause.value(what);
        }
        for (int k = 0; k < now.keys; k++) {
            h = 31 * h + now.gaps[k];
        }
        for (int t = 0; t < now.tunes; t++) {
            h = digestOfTune(h, t);
        }
        for (int what = 0; what <= ALL_MOST; what++) {
            h = 31 * h + allValue(what);
        }
        for (int i = 0; i < bridges.count; i++) {
            for (int what = 0; what <= BRIDGE_MOST; what++) {
                h = 31 * h + bridges.value(i, what, now.limit);
            }
        }
        return h;
    }

    // ---- what the calls share

    private long digestOfTune(long before, int t) {
        long h = before;
        for (int what = 0; what <= TUNE_MOST; what++) {
            h = 31 * h + now.tuneValue(t, what);
        }
        for (int i = 0; i < now.notes[t].count; i++) {
            for (int what = 0; what <= NOTE_MOST; what++) {
                h = 31 * h + now.noteValue(t, i, what);
            }
        }
        return h;
    }

    private void remember() {
        spare.copyFrom(now);
    }

    /** A refusal is below 0; no call told S answers so when it is done. */
    private int changed(int answer) {
        if (answer < 0) {
            return refused(answer);
        }
        keepSpare();
        return answer;
    }

    private int refused(int code) {
        if (code == BAD) {
            refusedBad++;
        } else if (code == NO) {
            refusedNo++;
        } else {
            refusedFull++;
        }
        return code;
    }

    /** The object of the STATE that is lost, or of a free place, serves as the next spare one. */
    private void keepSpare() {
        if (states < STATES_MOST) {
            Barrel unused = kept[states];
            kept[states] = spare;
            spare = unused;
            states++;
            return;
        }
        Barrel oldest = kept[0];
        for (int i = 1; i < STATES_MOST; i++) {
            kept[i - 1] = kept[i];
        }
        kept[STATES_MOST - 1] = spare;
        spare = oldest;
    }

    private int toldValue(int what) {
        switch (what) {
            case 0: return refusedBad;
            case 1: return refusedNo;
            case 2: return refusedFull;
            case 3: return text.length;
            case 4: return now.angles;
            case 5: return now.keys;
            case 6: return now.tunes;
            case 7: return now.way;
            case 8: return now.side;
            case 9: return now.limit;
            default: return states;
        }
    }

    private int pinValue(int t, int i, int what) {
        Pins pins = now.pins[t];
        switch (what) {
            case 0: return pins.notes.key[i];
            case 1: return pins.begin[i];
            case 2: return pins.holds[i];
            case 3: return pins.wear[i];
            case 4:
                bridges.find(now);
                return bridges.numberOf(t, i);
            default: return pins.freeBehind(i, now.angles);
        }
    }

    /** Of the bridges as they were found last. */
    private int allValue(int what) {
        switch (what) {
            case 0: return now.pinnedTunes();
            case 1: return now.pinCount();
            case 2: return bridges.count;
            case 3: return bridges.countShared();
            case 4: return bridges.countWorn(now.limit);
            case 5: return now.emptyTracks();
            default: return longestFree(now.heldOnAny(), now.angles);
        }
    }

    private int goRound(int t, int n) {
        if (!now.hasTune(t) || !within(n, 1, ROUNDS_MOST)) {
            return BAD;
        }
        Pins pins = now.pins[t];
        if (!pins.lying) {
            return NO;
        }
        for (int i = 0; i < pins.notes.count; i++) {
            pins.wear[i] += n;
        }
        bridges.find(now);
        int worn = 0;
        for (int b = 0; b < bridges.count; b++) {
            if (bridges.wear[b] >= now.limit && bridges.bears(b, t, pins.notes.count)) {
                worn++;
            }
        }
        return worn;
    }

    private int mendBridge(int b) {
        if (b < 0) {
            return BAD;
        }
        bridges.find(now);
        if (b >= bridges.count) {
            return NO;
        }
        for (int t = 0; t < now.tunes; t++) {
            Pins pins = now.pins[t];
            for (int i = 0; i < pins.howMany(); i++) {
                if (bridges.numberOf(t, i) == b) {
                    pins.wear[i] = 0;
                }
            }
        }
        return bridges.wear[b];
    }

    /** Of the bridges as they were found last. */
    private int keysHeard(int t, int a) {
        Pins pins = now.pins[t];
        int bits = 0;
        for (int i = 0; i < pins.howMany(); i++) {
            int lost = bridges.lostAtEnd(bridges.numberOf(t, i), now.limit);
            if (distance(pins.begin[i], a, now.angles) < pins.holds[i] - lost) {
                bits |= 1 << pins.notes.key[i];
            }
        }
        return bits;
    }

    private int wrongTicks(int t) {
        Pins pins = now.pins[t];
        int count = 0;
        for (int s = 0; s < pins.notes.ticks; s++) {
            if (keysHeard(t, pins.angleOfTick(s, now.angles)) != pins.notes.keysAt(s)) {
                count++;
            }
        }
        return count;
    }

    /** Does an ORDER as its call would, but counts nothing and keeps no STATE. */
    private int obey(int order) {
        int first = text.number(order, 0);
        int second = text.number(order, 1);
        switch (text.letter[order]) {
            case 't': return obeyTicks(order, first, second);
            case 'h': return now.setShift(first, second);
            case 'p': return pinner.putOn(now, first, cause);
            case 'o': return now.takeOff(first);
            case 'g': return now.setGap(first, second);
            default: return now.adjust(1, first);
        }
    }

    private int obeyTicks(int order, int t, int l) {
        int answer = now.setTicks(t, l);
        int count = text.numberCount(order);
        for (int i = 2; i + 2 < count && answer >= 0; i += 3) {
            answer = now.addNote(t, text.number(order, i), text.number(order, i + 1), text.number(order, i + 2));
        }
        return answer;
    }

    private void blame(int order, int code) {
        boolean toldByPinning = code == NO && text.letter[order] == 'p';
        if (!toldByPinning) {
            cause.tell(code == BAD ? ORDER_BAD : code == NO ? ORDER_NO : ORDER_FULL, 0, 0);
        }
        cause.order = order;
    }

    // ---- angles

    private static boolean within(int v, int least, int most) {
        return v >= least && v <= most;
    }

    /** ANGLE of a TICK. */
    private static int angle(int tick, int ticks, int way, int angles) {
        if (ticks < 1) {
            return 0;
        }
        switch (way) {
            case WAY_NEAREST: return (2 * tick * angles + ticks) / (2 * ticks);
            case WAY_NEXT: return (tick * angles + ticks - 1) / ticks;
            default: return tick * angles / ticks;
        }
    }

    /** An angle below twice the angles, taken once round. */
    private static int round(int a, int angles) {
        return a >= angles ? a - angles : a;
    }

    private static int distance(int from, int to, int angles) {
        return to >= from ? to - from : to - from + angles;
    }

    /** The longest row, round, of angles whose bit is not set. */
    private static int longestFree(int held, int angles) {
        int row = 0;
        int longest = 0;
        // Twice round, so that a row across angle 0 is met whole.
        for (int i = 0; i < 2 * angles; i++) {
            row = (held >> round(i, angles) & 1) == 0 ? row + 1 : 0;
            longest = Math.max(longest, row);
        }
        return Math.min(longest, angles);
    }

    /** TICKS, SHIFT and NOTES of a TUNE. */
    private static final class Notes {
        int ticks;
        int shift;
        int count;
        final int[] key = new int[NOTES_MOST];
        final int[] start = new int[NOTES_MOST];
        final int[] length = new int[NOTES_MOST];

        void copyFrom(Notes from) {
            ticks = from.ticks;
            shift = from.shift;
            count = from.count;
            System.arraycopy(from.key, 0, key, 0, NOTES_MOST);
            System.arraycopy(from.start, 0, start, 0, NOTES_MOST);
            System.arraycopy(from.length, 0, length, 0, NOTES_MOST);
        }

        boolean isTaken(int k, int s, int l) {
            for (int i = 0; i < count; i++) {
                if (key[i] == k && s < start[i] + length[i] && start[i] < s + l) {
                    return true;
                }
            }
            return false;
        }

        int add(int k, int s, int l) {
            if (count >= NOTES_MOST) {
                return FULL;
            }
            key[count] = k;
            start[count] = s;
            length[count] = l;
            count++;
            return count - 1;
        }

        int remove(int gone) {
            for (int i = gone + 1; i < count; i++) {
                key[i - 1] = key[i];
                start[i - 1] = start[i];
                length[i - 1] = length[i];
            }
            count--;
            return count;
        }

        int keysAt(int tick) {
            int bits = 0;
            for (int i = 0; i < count; i++) {
                if (tick >= start[i] && tick < start[i] + length[i]) {
                    bits |= 1 << key[i];
                }
            }
            return bits;
        }
    }

    /** PINS of a TUNE, with its NOTES, TICKS, SHIFT and WAY as they were when it was pinned. */
    private static final class Pins {
        boolean lying;
        int way;
        final Notes notes = new Notes();
        final int[] begin = new int[NOTES_MOST];
        final int[] holds = new int[NOTES_MOST];
        final int[] wear = new int[NOTES_MOST];

        void copyFrom(Pins from) {
            lying = from.lying;
            way = from.way;
            notes.copyFrom(from.notes);
            System.arraycopy(from.begin, 0, begin, 0, NOTES_MOST);
            System.arraycopy(from.holds, 0, holds, 0, NOTES_MOST);
            System.arraycopy(from.wear, 0, wear, 0, NOTES_MOST);
        }

        void lay(Notes from, int shift, int byWay, int angles) {
            lying = true;
            way = byWay;
            notes.copyFrom(from);
            notes.shift = shift;
            for (int i = 0; i < notes.count; i++) {
                int first = angle(notes.start[i], notes.ticks, way, angles);
                int end = angle(notes.start[i] + notes.length[i], notes.ticks, way, angles);
                begin[i] = round(first + shift, angles);
                holds[i] = end - first;
                wear[i] = 0;
            }
        }

        int howMany() {
            return lying ? notes.count : 0;
        }

        int angleOfTick(int s, int angles) {
            return round(angle(s, notes.ticks, way, angles) + notes.shift, angles);
        }

        int freeBehind(int i, int angles) {
            int next = angles;
            for (int j = 0; j < notes.count; j++) {
                if (j != i && notes.key[j] == notes.key[i]) {
                    next = Math.min(next, distance(begin[i], begin[j], angles));
                }
            }
            return next - holds[i];
        }

        /** The angles that a pin holds, as bits. */
        int held(int i, int angles) {
            int bits = 0;
            for (int a = 0; a < holds[i]; a++) {
                bits |= 1 << round(begin[i] + a, angles);
            }
            return bits;
        }
    }

    /** All that a STATE keeps. */
    private static final class Barrel {
        int angles;
        int keys;
        int tunes;
        int way;
        int side;
        int limit;
        final int[] gaps = new int[KEYS_MOST];
        final Notes[] notes = new Notes[TUNES_MOST];
        final Pins[] pins = new Pins[TUNES_MOST];

        Barrel() {
            for (int t = 0; t < TUNES_MOST; t++) {
                notes[t] = new Notes();
                pins[t] = new Pins();
            }
            begin(ANGLES_MOST, KEYS_FIRST, TUNES_MOST);
        }

        private void begin(int r, int k, int t) {
            angles = r;
            keys = k;
            tunes = t;
            way = 0;
            side = SIDE_FIRST;
            limit = LIMIT_FIRST;
            Arrays.fill(gaps, GAP_FIRST);
            for (int i = 0; i < TUNES_MOST; i++) {
                notes[i].ticks = r;
                notes[i].shift = 0;
                notes[i].count = 0;
                pins[i].lying = false;
            }
        }

        void copyFrom(Barrel from) {
            angles = from.angles;
            keys = from.keys;
            tunes = from.tunes;
            way = from.way;
            side = from.side;
            limit = from.limit;
            System.arraycopy(from.gaps, 0, gaps, 0, KEYS_MOST);
            for (int t = 0; t < TUNES_MOST; t++) {
                notes[t].copyFrom(from.notes[t]);
                pins[t].copyFrom(from.pins[t]);
            }
        }

        boolean hasTune(int t) {
            return within(t, 0, tunes - 1);
        }

        boolean hasKey(int k) {
            return within(k, 0, keys - 1);
        }

        boolean hasNote(int t, int i) {
            return hasTune(t) && within(i, 0, notes[t].count - 1);
        }

        int tracks() {
            return tunes * keys;
        }

        int track(int k, int t) {
            return tunes * k + t;
        }

        // ---- changes: each answers as its call does, and has changed nothing when it refuses

        int build(int r, int k, int t) {
            if (!within(r, ANGLES_LEAST, ANGLES_MOST) || !within(k, 1, KEYS_MOST)
                    || !within(t, TUNES_LEAST, TUNES_MOST)) {
                return BAD;
            }
            int was = angles;
            begin(r, k, t);
            return was;
        }

        int adjust(int what, int v) {
            if (what == 0 && within(v, 0, WAY_MOST)) {
                int was = way;
                way = v;
                return was;
            }
            if (what == 1 && within(v, 0, SIDE_MOST)) {
                int was = side;
                side = v;
                return was;
            }
            if (what == 2 && within(v, 1, LIMIT_MOST)) {
                int was = limit;
                limit = v;
                return was;
            }
            return BAD;
        }

        int setGap(int k, int v) {
            if (!hasKey(k) || !within(v, 0, GAP_MOST)) {
                return BAD;
            }
            int was = gaps[k];
            gaps[k] = v;
            return was;
        }

        int setTicks(int t, int l) {
            if (!hasTune(t) || !within(l, 1, angles)) {
                return BAD;
            }
            int were = notes[t].count;
            notes[t].ticks = l;
            notes[t].count = 0;
            return were;
        }

        int addNote(int t, int k, int s, int l) {
            if (!hasTune(t) || !hasKey(k) || !within(s, 0, notes[t].ticks - 1)
                    || !within(l, 1, notes[t].ticks - s)) {
                return BAD;
            }
            if (notes[t].isTaken(k, s, l)) {
                return NO;
            }
            return notes[t].add(k, s, l);
        }

        int removeNote(int t, int i) {
            return hasNote(t, i) ? notes[t].remove(i) : BAD;
        }

        int setShift(int t, int d) {
            if (!hasTune(t) || !within(d, 0, angles - 1)) {
                return BAD;
            }
            int was = notes[t].shift;
            notes[t].shift = d;
            return was;
        }

        int takeOff(int t) {
            if (!hasTune(t)) {
                return BAD;
            }
            if (!pins[t].lying) {
                return NO;
            }
            pins[t].lying = false;
            return pins[t].notes.count;
        }

        // ---- questions

        int tuneValue(int t, int what) {
            Pins laid = pins[t];
            if (what > 3 && !laid.lying) {
                return NONE;
            }
            switch (what) {
                case 0: return notes[t].ticks;
                case 1: return notes[t].count;
                case 2: return notes[t].shift;
                case 3: return laid.lying ? 1 : 0;
                case 4: return laid.notes.ticks;
                case 5: return laid.notes.shift;
                case 6: return laid.notes.count;
                default: return laid.way;
            }
        }

        int noteValue(int t, int i, int what) {
            Notes own = notes[t];
            int first = angle(own.start[i], own.ticks, way, angles);
            switch (what) {
                case 0: return own.key[i];
                case 1: return own.start[i];
                case 2: return own.length[i];
                case 3: return round(first + own.shift, angles);
                default: return angle(own.start[i] + own.length[i], own.ticks, way, angles) - first;
            }
        }

        int pinnedTunes() {
            int bits = 0;
            for (int t = 0; t < tunes; t++) {
                if (pins[t].lying) {
                    bits |= 1 << t;
                }
            }
            return bits;
        }

        int pinCount() {
            int count = 0;
            for (int t = 0; t < tunes; t++) {
                count += pins[t].howMany();
            }
            return count;
        }

        int emptyTracks() {
            int count = 0;
            for (int x = 0; x < tracks(); x++) {
                if (heldOn(x) == 0) {
                    count++;
                }
            }
            return count;
        }

        /** The angles that are held on a track, as bits; every pin holds one or more. */
        int heldOn(int x) {
            int bits = 0;
            for (int t = 0; t < tunes; t++) {
                for (int i = 0; i < pins[t].howMany(); i++) {
                    if (track(pins[t].notes.key[i], t) == x) {
                        bits |= pins[t].held(i, angles);
                    }
                }
            }
            return bits;
        }

        int heldOnAny() {
            int bits = 0;
            for (int t = 0; t < tunes; t++) {
                for (int i = 0; i < pins[t].howMany(); i++) {
                    bits |= pins[t].held(i, angles);
                }
            }
            return bits;
        }

        /** Whether two pins are ALIKE or APART, the other one beginning so many angles behind the one. */
        boolean canBeBeside(int behind, int holds, int otherHolds) {
            if (behind == 0) {
                return holds == otherHolds;
            }
            return behind >= holds + side && angles - behind >= otherHolds + side;
        }
    }

    /** Asks whether tunes can be pinned, and pins them. */
    private static final class Pinner {
        private final Pins[] plan = new Pins[TUNES_MOST];
        /** Whether TUNE t turned by d can lie beside TUNE u, by (t, u, d). */
        private final boolean[] beside = new boolean[TUNES_MOST * TUNES_MOST * ANGLES_MOST];
        private final int[] best = new int[TUNES_MOST];

        Pinner() {
            for (int t = 0; t < TUNES_MOST; t++) {
                plan[t] = new Pins();
            }
        }

        int putOn(Barrel b, int t, Cause cause) {
            if (!b.hasTune(t)) {
                return BAD;
            }
            Notes notes = b.notes[t];
            if (notes.count == 0) {
                cause.tell(NO_NOTES, 0, 0);
                return NO;
            }
            plan[t].lay(notes, notes.shift, b.way, b.angles);
            if (isTooSoon(b, t, cause) || isTouching(b, t, cause)) {
                return NO;
            }
            b.pins[t].copyFrom(plan[t]);
            return notes.count;
        }

        private boolean isTooSoon(Barrel b, int t, Cause cause) {
            int i = firstTooSoon(b, t);
            if (i == NONE) {
                return false;
            }
            cause.tell(TOO_SOON, i, plan[t].freeBehind(i, b.angles));
            return true;
        }

        private boolean isTouching(Barrel b, int t, Cause cause) {
            for (int i = 0; i < plan[t].notes.count; i++) {
                int touched = firstTouched(b, t, i, 0);
                if (touched != NONE) {
                    cause.tell(TOUCHING, i, touched);
                    return true;
                }
            }
            return false;
        }

        private int firstTooSoon(Barrel b, int t) {
            Pins pins = plan[t];
            for (int i = 0; i < pins.notes.count; i++) {
                if (pins.freeBehind(i, b.angles) < b.gaps[pins.notes.key[i]]) {
                    return i;
                }
            }
            return NONE;
        }

        /** 16 u and j of the first PIN j of another PINNED TUNE u that is in the way of a planned pin. */
        private int firstTouched(Barrel b, int t, int i, int turn) {
            for (int u = 0; u < b.tunes; u++) {
                if (u == t || !b.pins[u].lying) {
                    continue;
                }
                int j = firstInTheWay(b, t, i, turn, u, b.pins[u]);
                if (j != NONE) {
                    return 16 * u + j;
                }
            }
            return NONE;
        }

        private int firstInTheWay(Barrel b, int t, int i, int turn, int u, Pins others) {
            int x = b.track(plan[t].notes.key[i], t);
            int begin = round(plan[t].begin[i] + turn, b.angles);
            int holds = plan[t].holds[i];
            for (int j = 0; j < others.notes.count; j++) {
                boolean neighbours = Math.abs(x - b.track(others.notes.key[j], u)) == 1;
                int behind = distance(begin, others.begin[j], b.angles);
                if (neighbours && !b.canBeBeside(behind, holds, others.holds[j])) {
                    return j;
                }
            }
            return NONE;
        }

        int leastShift(Barrel b, int t) {
            plan[t].lay(b.notes[t], 0, b.way, b.angles);
            if (b.notes[t].count == 0 || firstTooSoon(b, t) != NONE) {
                return NONE;
            }
            for (int d = 0; d < b.angles; d++) {
                if (isClear(b, t, d)) {
                    return d;
                }
            }
            return NONE;
        }

        private boolean isClear(Barrel b, int t, int turn) {
            for (int i = 0; i < plan[t].notes.count; i++) {
                if (firstTouched(b, t, i, turn) != NONE) {
                    return false;
                }
            }
            return true;
        }

        int settleAll(Barrel b, Cause cause) {
            if (!planAll(b)) {
                cause.tell(NO_NOTES, 0, 0);
                return NO;
            }
            for (int t = 0; t < b.tunes; t++) {
                if (isTooSoon(b, t, cause)) {
                    return NO;
                }
            }
            compareAll(b);
            int sum = searchShifts(b);
            if (sum == NONE) {
                cause.tell(NO_SHIFTS, 0, 0);
                return NO;
            }
            pinAll(b);
            return sum;
        }

        private boolean planAll(Barrel b) {
            boolean notes = false;
            for (int t = 0; t < TUNES_MOST; t++) {
                plan[t].lay(b.notes[t], 0, b.way, b.angles);
                if (b.notes[t].count > 0) {
                    notes = true;
                }
            }
            return notes;
        }

        /** Turning two tunes alike changes nothing between them, so only how far they are turned apart is asked. */
        private void compareAll(Barrel b) {
            for (int t = 0; t < TUNES_MOST; t++) {
                for (int u = t + 1; u < TUNES_MOST; u++) {
                    for (int d = 0; d < b.angles; d++) {
                        beside[place(t, u, d)] = canLieBeside(b, t, u, d);
                    }
                }
            }
        }

        private static int place(int t, int u, int d) {
            return (t * TUNES_MOST + u) * ANGLES_MOST + d;
        }

        private boolean canLieBeside(Barrel b, int t, int u, int turn) {
            for (int i = 0; i < plan[t].notes.count; i++) {
                if (firstInTheWay(b, t, i, turn, u, plan[u]) != NONE) {
                    return false;
                }
            }
            return true;
        }

        /** The least sum of shifts, or NONE; since the least shifts are tried first, only a lesser sum replaces them. */
        private int searchShifts(Barrel b) {
            int least = NONE;
            for (int s0 = 0; s0 < shiftsToTry(b, 0); s0++) {
                // Turned back together by the first one's shift, tunes that can be beside one another still can.
                if (s0 > 0 && least == NONE) {
                    return NONE;
                }
                least = searchBehind(b, s0, least);
            }
            return least;
        }

        private int searchBehind(Barrel b, int s0, int leastBefore) {
            int least = leastBefore;
            for (int s1 = 0; s1 < shiftsToTry(b, 1); s1++) {
                boolean tooMuch = least != NONE && s0 + s1 >= least;
                if (tooMuch || !beside[place(0, 1, distance(s1, s0, b.angles))]) {
                    continue;
                }
                int s2 = leastThird(b, s0, s1);
                if (s2 != NONE && (least == NONE || s0 + s1 + s2 < least)) {
                    least = s0 + s1 + s2;
                    best[0] = s0;
                    best[1] = s1;
                    best[2] = s2;
                }
            }
            return least;
        }

        private int leastThird(Barrel b, int s0, int s1) {
            for (int s2 = 0; s2 < shiftsToTry(b, 2); s2++) {
                if (beside[place(0, 2, distance(s2, s0, b.angles))]
                        && beside[place(1, 2, distance(s2, s1, b.angles))]) {
                    return s2;
                }
            }
            return NONE;
        }

        /** A tune without notes is not shifted: it adds 0 to the sum. */
        private static int shiftsToTry(Barrel b, int t) {
            return b.notes[t].count > 0 ? b.angles : 1;
        }

        private void pinAll(Barrel b) {
            for (int t = 0; t < b.tunes; t++) {
                b.pins[t].lying = false;
                if (b.notes[t].count > 0) {
                    b.notes[t].shift = best[t];
                    b.pins[t].lay(b.notes[t], best[t], b.way, b.angles);
                }
            }
        }
    }

    /** BRIDGES in their order, found anew from the pins whenever a call asks for them. */
    private static final class Bridges {
        int count;
        final int[] wear = new int[PINS_MOST];
        private final int[] begin = new int[PINS_MOST];
        private final int[] holds = new int[PINS_MOST];
        private final int[] firstTrack = new int[PINS_MOST];
        private final int[] size = new int[PINS_MOST];
        /** The bridge of PIN i of TUNE t, by (t, i). */
        private final int[] number = new int[PINS_MOST];
        /** The pin, by (t, i), that begins on a track at an angle, by (track, angle); or NONE. */
        private final int[] pinAt = new int[TRACKS_MOST * ANGLES_MOST];

        void find(Barrel b) {
            count = 0;
            placePins(b);
            // By angle and then by track: so the bridges come in their order.
            for (int a = 0; a < b.angles; a++) {
                int before = NONE;
                for (int x = 0; x < b.tracks(); x++) {
                    int p = pinAt[x * ANGLES_MOST + a];
                    if (p != NONE) {
                        join(b, p, before, x);
                    }
                    before = p;
                }
            }
        }

        private void placePins(Barrel b) {
            Arrays.fill(pinAt, NONE);
            for (int t = 0; t < b.tunes; t++) {
                Pins pins = b.pins[t];
                for (int i = 0; i < pins.howMany(); i++) {
                    int x = b.track(pins.notes.key[i], t);
                    pinAt[x * ANGLES_MOST + pins.begin[i]] = t * NOTES_MOST + i;
                }
            }
        }

        /** A pin joins the bridge of that before it, which begins at the same angle one track below, if they are alike. */
        private void join(Barrel b, int p, int before, int x) {
            Pins pins = b.pins[p / NOTES_MOST];
            int i = p % NOTES_MOST;
            if (before != NONE && holds[number[before]] == pins.holds[i]) {
                number[p] = number[before];
            } else {
                number[p] = count;
                begin[count] = pins.begin[i];
                holds[count] = pins.holds[i];
                firstTrack[count] = x;
                size[count] = 0;
                wear[count] = 0;
                count++;
            }
            size[number[p]]++;
            wear[number[p]] += pins.wear[i];
        }

        int numberOf(int t, int i) {
            return number[t * NOTES_MOST + i];
        }

        boolean bears(int bridge, int t, int pinCount) {
            for (int i = 0; i < pinCount; i++) {
                if (numberOf(t, i) == bridge) {
                    return true;
                }
            }
            return false;
        }

        int countShared() {
            int shared = 0;
            for (int i = 0; i < count; i++) {
                if (size[i] > 1) {
                    shared++;
                }
            }
            return shared;
        }

        int countWorn(int limit) {
            int worn = 0;
            for (int i = 0; i < count; i++) {
                if (wear[i] >= limit) {
                    worn++;
                }
            }
            return worn;
        }

        int lostAtEnd(int i, int limit) {
            return limit < 1 ? 0 : Math.min(wear[i] / limit, holds[i]);
        }

        int value(int i, int what, int limit) {
            switch (what) {
                case 0: return begin[i];
                case 1: return holds[i];
                case 2: return firstTrack[i];
                case 3: return size[i];
                case 4: return wear[i];
                default: return lostAtEnd(i, limit);
            }
        }
    }

    /** CAUSE of what was refused last. */
    private static final class Cause {
        int order = NONE;
        private int kind;
        private int first;
        private int second;

        void tell(int newKind, int newFirst, int newSecond) {
            kind = newKind;
            first = newFirst;
            second = newSecond;
            order = NONE;
        }

        int value(int what) {
            switch (what) {
                case 0: return kind;
                case 1: return first;
                case 2: return second;
                default: return order;
            }
        }
    }

    /** THE TEXT, and the ORDERS that it tells. */
    private static final class Text {
        int length;
        int orders;
        final int[] letter = new int[TEXT_MOST];
        private final byte[] bytes = new byte[TEXT_MOST];
        /** Where the numbers of an order begin; those of the next begin behind them. */
        private final int[] firstNumber = new int[TEXT_MOST + 1];
        private final int[] numbers = new int[TEXT_MOST];
        private int numbersUsed;
        private boolean orderOpen;
        private boolean notesOpen;
        private int numbersWanted;

        int append(int c) {
            if (length < TEXT_MOST) {
                bytes[length] = (byte) c;
                length++;
            }
            return length;
        }

        int numberCount(int order) {
            return firstNumber[order + 1] - firstNumber[order];
        }

        /** The i-th number of an order; 0, if it has not so many. */
        int number(int order, int i) {
            return i < numberCount(order) ? numbers[firstNumber[order] + i] : 0;
        }

        /** Finds the orders: the FAULT, or NONE. */
        int parse() {
            orders = 0;
            numbersUsed = 0;
            orderOpen = false;
            int figures = 0;
            for (int at = 0; at < length; at++) {
                int c = bytes[at];
                figures = isFigure(c) ? figures + 1 : 0;
                if (figures > 2) {
                    return at - 2;
                }
                boolean stands = figures == 2 || c == ' ' || (figures == 1 ? opensNumber() : takesMark(c));
                if (!stands) {
                    return at;
                }
                if (figures > 0) {
                    addFigure(c - '0');
                }
            }
            return orderOpen || orders == 0 ? length : NONE;
        }

        private static boolean isFigure(int c) {
            return c >= '0' && c <= '9';
        }

        private boolean opensNumber() {
            if (!orderOpen || numbersWanted < 1 || numbersUsed >= TEXT_MOST) {
                return false;
            }
            numbersWanted--;
            numbers[numbersUsed] = 0;
            numbersUsed++;
            return true;
        }

        private void addFigure(int figure) {
            if (numbersUsed > 0) {
                numbers[numbersUsed - 1] = 10 * numbers[numbersUsed - 1] + figure;
            }
        }

        private boolean takesMark(int c) {
            if (!orderOpen) {
                return opensOrder(c);
            }
            if (numbersWanted > 0) {
                return false;
            }
            if (c == ';') {
                endOrder();
                return true;
            }
            return takesNotes(c);
        }

        private boolean opensOrder(int c) {
            numbersWanted = numbersOf(c);
            if (numbersWanted == 0 || orders >= TEXT_MOST) {
                return false;
            }
            orderOpen = true;
            notesOpen = false;
            letter[orders] = c;
            firstNumber[orders] = numbersUsed;
            return true;
        }

        private void endOrder() {
            orders++;
            firstNumber[orders] = numbersUsed;
            orderOpen = false;
        }

        private boolean takesNotes(int c) {
            boolean firstOne = c == ':' && letter[orders] == 't' && !notesOpen;
            boolean nextOne = c == ',' && notesOpen;
            if (!firstOne && !nextOne) {
                return false;
            }
            notesOpen = true;
            numbersWanted = 3;
            return true;
        }

        /** How many numbers stand behind an order's letter; 0, if it is none. */
        private static int numbersOf(int c) {
            switch (c) {
                case 't':
                case 'h':
                case 'g':
                    return 2;
                case 'p':
                case 'o':
                case 'e':
                    return 1;
                default:
                    return 0;
            }
        }
    }
}
