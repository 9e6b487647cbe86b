/** Section 2 of the Terms and promises 7 to 12, sentence by sentence. */
final class EdgesOfPersons {
    private static final int MIN = Integer.MIN_VALUE, MAX = Integer.MAX_VALUE;

    private final Sentences s;

    EdgesOfPersons(Sentences s) {
        this.s = s;
    }

    void run() {
        terms();
        person();
        die();
        poor();
        stay();
        hold();
        of();
    }

    private static WritHouse withPersons(int n) {
        WritHouse x = new WritHouse();
        for (int i = 0; i < n; i++) x.person(0);
        return x;
    }

    private void terms() {
        s.terms(2, "PERSONS, 16 at most, numbered as they come,");
        WritHouse x = new WritHouse();
        for (int i = 0; i < 16; i++) s.is(x.person(3599 - i), i);
        s.is(x.person(0), -2);

        s.terms(2, "are BORN on a DAY, and may DIE on a DAY (they are ALIVE on both, and between).");
        WritHouse y = new WritHouse();
        y.person(10);
        s.got(y.of(0, 9, 6), y.of(0, 10, 6), y.of(0, 3599, 6)).are(0, 1, 1);
        y.die(0, 12);
        s.got(y.of(0, 9, 6), y.of(0, 10, 6), y.of(0, 11, 6), y.of(0, 12, 6), y.of(0, 13, 6)).are(0, 1, 1, 1, 0);
        y.person(0);
        y.die(1, 0);
        s.got(y.of(1, 0, 6), y.of(1, 1, 6), y.of(1, 3599, 6)).are(1, 0, 0);
        y.person(3599);
        y.die(2, 3599);
        s.got(y.of(2, 0, 6), y.of(2, 3598, 6), y.of(2, 3599, 6)).are(0, 0, 1);

        s.terms(2, "STAYS, 32 at most: of a PERSON at a PLACE (0 to 9) from a DAY to a DAY.");
        WritHouse stays = withPersons(2);
        s.all(-1, stays.stay(0, -1, 0, 0), stays.stay(0, 10, 0, 0));
        for (int i = 0; i < 32; i++) s.is(stays.stay(i % 2, i % 10, i, i + 1), i + 1);
        s.is(stays.stay(0, 0, 0, 0), -2);
        s.got(stays.of(0, 0, 10), stays.of(0, 1, 10), stays.of(0, 2, 10)).are(1, 1, 0);

        s.terms(2, "HOLDS, 24 at most: of an OFFICE (0 to 5) by a PERSON likewise.");
        WritHouse holds = withPersons(2);
        s.all(-1, holds.hold(0, -1, 0, 0), holds.hold(0, 6, 0, 0));
        for (int i = 0; i < 24; i++) s.is(holds.hold(i % 2, i % 6, i, i + 1), i + 1);
        s.is(holds.hold(0, 0, 0, 0), -2);
        s.got(holds.of(0, 0, 0), holds.of(0, 1, 0), holds.of(0, 2, 0), holds.of(0, 2, 2)).are(1, 1, 0, 1);

        s.terms(2, "On a DAY a PERSON is NEAR a PLACE: 1, if a STAY of that DAY tells this PLACE; else 0, if one tells another;"
            + " else 2.");
        WritHouse z = withPersons(2);
        z.stay(0, 0, 5, 6);
        z.stay(0, 9, 6, 7);
        s.got(z.of(0, 4, 10), z.of(0, 5, 10), z.of(0, 6, 10), z.of(0, 7, 10), z.of(0, 8, 10)).are(2, 1, 1, 0, 2);
        s.got(z.of(0, 4, 19), z.of(0, 5, 19), z.of(0, 6, 19), z.of(0, 7, 19), z.of(0, 8, 19)).are(2, 0, 1, 1, 2);
        s.got(z.of(0, 5, 15), z.of(0, 6, 15), z.of(1, 6, 10)).are(0, 0, 2);
    }

    private void person() {
        s.promise(7, "A PERSON is BORN: their number.");
        WritHouse x = new WritHouse();
        s.got(x.person(0), x.person(3599), x.person(5)).are(0, 1, 2);

        s.promise(7, "BAD: there is no such DAY;");
        s.all(-1, x.person(-1), x.person(3600), x.person(MIN), x.person(MAX));
        s.is(x.many(2), 3);

        s.promise(7, "FULL.");
        WritHouse full = withPersons(15);
        s.is(full.person(0), 15);
        s.all(-2, full.person(0), full.person(3599));
        s.all(-1, full.person(-1), full.person(3600));
        s.is(full.many(2), 16);
    }

    private void die() {
        s.promise(8, "A PERSON DIES on a DAY: 1.");
        WritHouse x = withPersons(2);
        s.is(x.die(0, 0), 1);
        s.is(x.die(1, 3599), 1);
        s.got(x.of(0, 1, 6), x.of(1, 1, 6)).are(0, 1);

        s.promise(8, "BAD: there is no such PERSON, DAY, or it is ahead of that on which they were BORN;");
        WritHouse y = new WritHouse();
        s.is(y.die(0, 10), -1);
        y.person(10);
        s.all(-1, y.die(-1, 10), y.die(1, 10), y.die(MIN, 10), y.die(MAX, 10));
        s.all(-1, y.die(0, -1), y.die(0, 3600), y.die(0, MAX), y.die(0, 9), y.die(0, 0));
        s.is(y.of(0, 3599, 6), 1);
        s.is(y.die(0, 10), 1);
        s.all(-1, y.die(0, 9), y.die(0, 3600));

        s.promise(8, "STATE: they did already.");
        s.all(-4, y.die(0, 10), y.die(0, 3599));
        s.is(y.of(0, 11, 6), 0);
        s.all(-4, x.die(0, 0), x.die(0, 5));
        s.is(x.of(0, 1, 6), 0);
    }

    private void poor() {
        s.promise(9, "A PERSON is POOR, or not: 1 if that is new, else 0.");
        WritHouse x = withPersons(2);
        s.got(x.poor(0, false), x.poor(0, true), x.poor(0, true), x.poor(0, false), x.poor(0, false)).are(0, 1, 0, 1, 0);
        s.got(x.poor(0, true), x.poor(1, false), x.poor(1, true)).are(1, 0, 1);

        s.promise(9, "BAD.");
        s.all(-1, x.poor(-1, true), x.poor(2, true), x.poor(MIN, false), x.poor(MAX, true));
    }

    private void stay() {
        s.promise(10, "A STAY: how many there are.");
        WritHouse x = withPersons(2);
        s.got(x.stay(0, 0, 0, 0), x.stay(1, 9, 3599, 3599), x.stay(1, 9, 0, 3599)).are(1, 2, 3);
        s.got(x.of(0, 0, 10), x.of(1, 3599, 19), x.of(0, 1, 10)).are(1, 1, 2);

        s.promise(10, "BAD: there is no such PERSON, PLACE, DAY (either), or last is ahead of first;");
        s.all(-1, x.stay(-1, 0, 0, 0), x.stay(2, 0, 0, 0), x.stay(MIN, 0, 0, 0), x.stay(MAX, 0, 0, 0));
        s.all(-1, x.stay(0, -1, 0, 0), x.stay(0, 10, 0, 0), x.stay(0, MIN, 0, 0), x.stay(0, MAX, 0, 0));
        s.all(-1, x.stay(0, 0, -1, 0), x.stay(0, 0, -1, -1), x.stay(0, 0, 3600, 3600), x.stay(0, 0, MIN, MAX));
        s.all(-1, x.stay(0, 0, 0, -1), x.stay(0, 0, 0, 3600), x.stay(0, 0, 0, MAX));
        s.all(-1, x.stay(0, 0, 1, 0), x.stay(0, 0, 3599, 3598));
        s.is(new WritHouse().stay(0, 0, 0, 0), -1);
        s.is(x.many(3), 3);

        s.promise(10, "FULL.");
        WritHouse full = withPersons(1);
        for (int i = 0; i < 31; i++) full.stay(0, 0, 0, 0);
        s.is(full.stay(0, 0, 0, 0), 32);
        s.is(full.stay(0, 0, 0, 0), -2);
        s.all(-1, full.stay(1, 0, 0, 0), full.stay(0, 10, 0, 0), full.stay(0, 0, 1, 0), full.stay(0, 0, 0, 3600));
        s.is(full.many(3), 32);
        s.is(full.hold(0, 0, 0, 0), 1);
    }

    private void hold() {
        s.promise(11, "A HOLD: how many there are.");
        WritHouse x = withPersons(2);
        s.got(x.hold(0, 0, 0, 0), x.hold(1, 5, 3599, 3599), x.hold(1, 5, 0, 3599)).are(1, 2, 3);
        s.got(x.of(0, 0, 0), x.of(1, 3599, 5), x.of(0, 1, 0)).are(1, 1, 0);

        s.promise(11, "BAD: there is no such PERSON, OFFICE, DAY (either), or last is ahead of first;");
        s.all(-1, x.hold(-1, 0, 0, 0), x.hold(2, 0, 0, 0), x.hold(MIN, 0, 0, 0), x.hold(MAX, 0, 0, 0));
        s.all(-1, x.hold(0, -1, 0, 0), x.hold(0, 6, 0, 0), x.hold(0, MIN, 0, 0), x.hold(0, MAX, 0, 0));
        s.all(-1, x.hold(0, 0, -1, 0), x.hold(0, 0, -1, -1), x.hold(0, 0, 3600, 3600), x.hold(0, 0, MIN, MAX));
        s.all(-1, x.hold(0, 0, 0, -1), x.hold(0, 0, 0, 3600), x.hold(0, 0, 0, MAX));
        s.all(-1, x.hold(0, 0, 1, 0), x.hold(0, 0, 3599, 3598));
        s.is(new WritHouse().hold(0, 0, 0, 0), -1);
        s.is(x.many(4), 3);

        s.promise(11, "FULL.");
        WritHouse full = withPersons(1);
        for (int i = 0; i < 23; i++) full.hold(0, 0, 0, 0);
        s.is(full.hold(0, 0, 0, 0), 24);
        s.is(full.hold(0, 0, 0, 0), -2);
        s.all(-1, full.hold(1, 0, 0, 0), full.hold(0, 6, 0, 0), full.hold(0, 0, 1, 0), full.hold(0, 0, 0, 3600));
        s.is(full.many(4), 24);
        s.is(full.stay(0, 0, 0, 0), 1);
    }

    private void of() {
        s.promise(12, "Of a PERSON on a DAY: what = 0 to 5 1 if they HOLD that OFFICE, else 0, 6 1 if ALIVE, else 0,"
            + " 10 + p how they are NEAR PLACE p.");
        WritHouse x = withPersons(2);
        x.hold(0, 0, 0, 0);
        x.hold(0, 5, 3599, 3599);
        x.stay(0, 0, 0, 0);
        x.stay(0, 9, 3599, 3599);
        x.die(0, 0);
        long[] first = new long[7], last = new long[7];
        for (int what = 0; what <= 6; what++) {
            first[what] = x.of(0, 0, what);
            last[what] = x.of(0, 3599, what);
        }
        s.got(first).are(1, 0, 0, 0, 0, 0, 1);
        s.got(last).are(0, 0, 0, 0, 0, 1, 0);
        for (int p = 0; p < 10; p++) {
            s.is(x.of(0, 0, 10 + p), p == 0 ? 1 : 0);
            s.is(x.of(0, 1, 10 + p), 2);
            s.is(x.of(0, 3599, 10 + p), p == 9 ? 1 : 0);
            s.is(x.of(1, 0, 10 + p), 2);
        }

        s.promise(12, "BAD: there is no such PERSON, DAY, another what.");
        s.all(-1, x.of(-1, 0, 6), x.of(2, 0, 6), x.of(MIN, 0, 6), x.of(MAX, 0, 6), new WritHouse().of(0, 0, 6));
        s.all(-1, x.of(0, -1, 6), x.of(0, 3600, 6), x.of(0, MIN, 6), x.of(0, MAX, 6));
        s.all(-1, x.of(0, 0, -1), x.of(0, 0, 7), x.of(0, 0, 8), x.of(0, 0, 9), x.of(0, 0, 20), x.of(0, 0, MIN), x.of(0, 0, MAX));
    }
}
