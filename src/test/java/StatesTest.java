import java.util.function.Consumer;
import java.util.function.ToIntFunction;

/** STATES: each call told S leaves one and can be gone back from; no other call leaves one or changes anything. */
public final class StatesTest {
    public static void main(String[] args) {
        changes();
        questions();
        textAndCauseStay();
        bridgesAreFoundAnew();
        Check.end();
    }

    private static OrganBarrel prepared() {
        OrganBarrel x = new OrganBarrel();
        x.barrel(18, 3, 3);
        x.gap(1, 2);
        x.ticks(0, 9);
        x.note(0, 0, 0, 2);
        x.note(0, 1, 3, 1);
        x.note(1, 0, 5, 3);
        x.shift(1, 2);
        x.pins(0);
        x.plays(0, 9);
        String text = "e2;t0 3;h1 1;g0 3;";
        for (int i = 0; i < text.length(); i++) {
            x.type(text.charAt(i));
        }
        // Two STATES are left: there is room for one more.
        x.back();
        x.back();
        x.back();
        x.pins(0);
        return x;
    }

    private static void change(String call, ToIntFunction<OrganBarrel> does, int due) {
        OrganBarrel x = prepared();
        long before = x.digest();
        int states = x.told(10);
        Check.due(call, does.applyAsInt(x), due);
        Check.due(call + " leaves a STATE", x.told(10), states + 1);
        Check.that(call + " changes something", x.digest() != before);
        Check.due(call + " and back", x.back(), states);
        Check.due(call + " and back: digest", x.digest(), before);
    }

    private static void changes() {
        change("barrel", x -> x.barrel(6, 1, 2), 18);
        change("barrel, fewer KEYS", x -> x.barrel(18, 2, 3), 18);
        change("barrel, fewer TUNES", x -> x.barrel(18, 3, 2), 18);
        change("sets 0", x -> x.sets(0, 2), 0);
        change("sets 1", x -> x.sets(1, 3), 1);
        change("sets 2", x -> x.sets(2, 5), 20);
        change("gap", x -> x.gap(1, 6), 2);
        change("side", x -> x.side(0), 1);
        change("ticks", x -> x.ticks(0, 4), 2);
        change("note", x -> x.note(2, 2, 17, 1), 0);
        change("drop", x -> x.drop(0, 0), 1);
        change("shift", x -> x.shift(0, 17), 0);
        change("shift by what it was", x -> x.shift(0, 0), 0);
        change("off", x -> x.off(0), 2);
        change("settles", OrganBarrel::settles, 0);
        change("plays", x -> x.plays(0, 20), 2);
        change("mends", x -> x.mends(0), 0);
        change("reads", OrganBarrel::reads, 4);
        change("pins", x -> x.pins(0), 2);
    }

    private static void question(String call, Consumer<OrganBarrel> asks) {
        OrganBarrel x = prepared();
        long before = x.digest();
        asks.accept(x);
        Check.due(call + " changes nothing", x.digest(), before);
    }

    private static void questions() {
        for (int i = 0; i <= 3; i++) {
            int what = i;
            question("tune", x -> x.tune(0, what));
            question("noteOf", x -> x.noteOf(0, 1, what));
            question("pin", x -> x.pin(0, 1, what + 2));
            question("why", x -> x.why(what));
            question("all", x -> x.all(what + 3));
            question("bridge", x -> x.bridge(what, what));
            question("free", x -> x.free(what));
            question("told", x -> x.told(what));
        }
        question("fits", x -> x.fits(1));
        question("heard", x -> x.heard(0, 0));
        question("tells", x -> x.tells(0, 0));
        question("wrong", x -> x.wrong(0));
        question("digest", OrganBarrel::digest);
    }

    private static void textAndCauseStay() {
        OrganBarrel x = prepared();
        x.side(3);
        x.pins(2);
        x.type('x');
        x.sets(9, 9);
        int bytes = x.told(3);
        x.back();
        Check.due("THE TEXT", x.told(3), bytes);
        Check.cause("back", x, 4, 0, 0, -1);
        Check.due("BAD", x.told(0), 1);
        Check.due("NO", x.told(1), 1);
    }

    /** What was found for one call does not answer for the next one. */
    private static void bridgesAreFoundAnew() {
        OrganBarrel x = new OrganBarrel();
        x.note(0, 0, 0, 4);
        x.note(1, 0, 0, 4);
        x.note(1, 2, 8, 4);
        x.pins(0);
        x.sets(2, 10);
        x.plays(0, 20);
        x.pins(1);
        Check.due("heard 1 2: a new PIN on a WORN bridge", x.heard(1, 2), 0);
        x.off(0);
        Check.due("heard 1 2 without the WORN one", x.heard(1, 2), 1);
        x.back();
        Check.due("tells 1 2", x.tells(1, 2), 0);
        x.off(0);
        Check.due("tells 1 2 without the WORN one", x.tells(1, 2), 1);
        x.back();
        Check.due("wrong 1", x.wrong(1), 2);
        x.off(0);
        Check.due("wrong 1 without the WORN one", x.wrong(1), 0);
        x.shift(1, 20);
        x.pins(1);
        Check.due("pin 1 0 4", x.pin(1, 0, 4), 1);
        x.back();
        Check.due("pin 1 0 4 before", x.pin(1, 0, 4), 0);
    }
}
