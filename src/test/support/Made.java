/** Objects that the tests of the edges begin with. */
final class Made {
    private Made() {
    }

    static OrganBarrel small() {
        OrganBarrel x = new OrganBarrel();
        x.barrel(6, 1, 2);
        return x;
    }

    static OrganBarrel large() {
        OrganBarrel x = new OrganBarrel();
        x.barrel(24, 6, 3);
        return x;
    }

    /** Nothing is as at first; TUNES 0 and 1 are PINNED, by other NOTES, TICKS, SHIFTS and another WAY than they have now. */
    static OrganBarrel rich() {
        OrganBarrel x = new OrganBarrel();
        x.barrel(18, 3, 3);
        x.sets(0, 1);
        x.sets(1, 2);
        x.sets(2, 7);
        x.gap(0, 2);
        x.gap(2, 0);
        x.ticks(0, 12);
        x.note(0, 0, 0, 2);
        x.note(0, 0, 6, 3);
        x.note(0, 2, 4, 8);
        x.shift(0, 16);
        x.note(1, 0, 7, 5);
        x.note(1, 2, 0, 3);
        Check.due("pins 0 of a rich one", x.pins(0), 3);
        Check.due("reads of a rich one", Check.reads(x, "e2;p1;"), -1001);
        Check.cause("a rich one", x, 2, 1, 2, 1);
        x.drop(1, 1);
        x.note(1, 2, 0, 2);
        Check.due("pins 1 of a rich one", x.pins(1), 2);
        Check.due("plays 0 9 of a rich one", x.plays(0, 9), 3);
        Check.due("plays 1 4 of a rich one", x.plays(1, 4), 1);
        x.sets(0, 2);
        x.drop(0, 0);
        x.shift(0, 5);
        x.ticks(1, 5);
        x.note(1, 1, 2, 2);
        x.note(2, 1, 4, 11);
        Check.text(x, "t2 9:1 0 2;h0 4;p1;g1 3;e0;o0;");
        x.note(7, 0, 0, 1);
        x.off(2);
        x.off(2);
        x.sets(1, 0);
        x.gap(1, 6);
        x.back();
        x.back();
        return x;
    }

    /** 12 NOTES and PINS in each of 3 TUNES, all TRACKS with PINS, 120 bytes, 5 STATES; one call of each kind was refused. */
    static OrganBarrel full() {
        OrganBarrel x = large();
        for (int t = 0; t < 3; t++) {
            for (int k = 0; k < 6; k++) {
                x.note(t, k, 1, 4);
                x.note(t, k, 13, 4);
            }
            Check.due("pins of a full one", x.pins(t), 12);
        }
        for (int i = 0; i < 40; i++) {
            x.type('e');
            x.type(i < 39 ? '3' : '2');
            x.type(';');
        }
        x.type('x');
        x.off(3);
        x.ticks(0, 24);
        x.pins(0);
        x.back();
        x.plays(2, 3);
        return x;
    }

    /** 36 PINS of 36 BRIDGES, which are as many as can be; those of TUNE 1 are WORN, those of TUNE 2 not quite. */
    static OrganBarrel many() {
        OrganBarrel x = large();
        for (int t = 0; t < 3; t++) {
            for (int k = 0; k < 6; k++) {
                x.note(t, k, 4 * t, 2);
                x.note(t, k, 4 * t + 12, 2);
            }
            Check.due("pins of one of many", x.pins(t), 12);
        }
        Check.due("plays 1 20 of one of many", x.plays(1, 20), 12);
        Check.due("plays 2 19 of one of many", x.plays(2, 19), 0);
        return x;
    }
}
