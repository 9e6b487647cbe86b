import java.util.List;

/** Promises 62 and 63, sentence by sentence. */
final class EdgesOfKept {
    private final Sentences s;

    EdgesOfKept(Sentences s) {
        this.s = s;
    }

    void run() {
        keep();
        notKept();
        again();
    }

    private interface Calls {
        void on(WritHouse x);
    }

    /** Day 20, with something of all that may change. Letter 0 has a seal of two, of day 12; letters 1 and 2 are written on day 10. */
    static WritHouse house() {
        WritHouse x = new WritHouse();
        x.person(0);
        x.person(0);
        x.king(0, true);
        x.petition(0, 0);
        for (int seal = 0; seal < 4; seal++) x.hold(0, seal, 0, 3599);
        x.stay(0, 1, 0, 10);
        Due.read(x, 0, "kind charter;say 1 land;seals 0 1;fee 5;roll 1;");
        Due.read(x, 1, "kind writ;say 1;due 9;fee 3;");
        x.days(10);
        x.letter(0, 0, 0);
        x.letter(0, 0, 0);
        x.letter(0, 1, 0);
        x.days(10);
        x.fill(0, 1, 5);
        x.seal(0, 12);
        x.witness(0, 0, 6);
        x.witness(1, 0, 6);
        x.task(2, 1);
        x.task(2, 2);
        return x;
    }

    private static final Calls[] CHANGES = {
        x -> x.days(7), x -> x.king(500, false), x -> x.feast(1, 9), x -> x.person(5), x -> x.die(0, 15), x -> x.poor(0, true),
        x -> x.stay(0, 2, 0, 30), x -> x.hold(1, 1, 0, 30), x -> Due.read(x, 0, "say 3;wants fact 1;"), x -> Due.read(x, 2, "say 3;"),
        x -> x.strike(1), x -> x.petition(1, 3), x -> x.letter(1, 0, 0), x -> x.fill(1, 1, 6), x -> x.slip(1, 0, 5), x -> x.mend(2, 1),
        x -> x.inspect(1, 0), x -> x.seal(0, 20), x -> x.crack(2, 3), x -> x.enter(0, 1), x -> x.witness(0, 1, 6), x -> x.place(0, 1),
        x -> x.back(2, 10), x -> x.task(1, 1), x -> x.clear(), x -> {
            x.clear();
            x.task(5, 9);
            x.task(4, 0);
            x.task(3, 3);
        }};

    private boolean same(WritHouse x, WritHouse y) {
        return Look.atKept(x).equals(Look.atKept(y));
    }

    private void keep() {
        s.promise(62, "is kept: 1.");
        s.all(1, new WritHouse().keep(), house().keep());
        WritHouse all = house();
        all.keep();
        for (int i = 0; i < CHANGES.length; i++) {
            // the change is seen, and gone again
            WritHouse changed = house();
            CHANGES[i].on(changed);
            s.is(same(changed, house()) ? i : -1, -1);
            WritHouse x = house();
            x.keep();
            CHANGES[i].on(x);
            x.again();
            s.is(same(x, house()) ? -1 : i, -1);
            CHANGES[i].on(all);
            // kept behind the change, it comes again with it
            WritHouse y = house();
            y.keep();
            CHANGES[i].on(y);
            y.keep();
            for (Calls other : CHANGES) other.on(y);
            y.again();
            s.is(same(y, changed(i)) ? -1 : i, -1);
        }
        all.again();
        s.is(same(all, house()) ? 1 : 0, 1);
        // a keep of an empty house, and what comes then comes as it does to a new one
        WritHouse empty = new WritHouse();
        empty.keep();
        build(empty);
        empty.again();
        s.is(same(empty, new WritHouse()) ? 1 : 0, 1);
        build(empty);
        s.is(empty.letterOf(0, 6), 0);
    }

    private static WritHouse changed(int i) {
        WritHouse x = house();
        CHANGES[i].on(x);
        return x;
    }

    private static void build(WritHouse x) {
        x.person(0);
        x.die(0, 0);
        x.poor(0, true);
        x.person(0);
        x.petition(0, 0);
        x.king(5, true);
        Due.read(x, 0, "say land;");
        x.letter(0, 0, 0);
        x.strike(0);
    }

    private void notKept() {
        s.promise(62, "All but THE TAPE, ROWS, SHEETS, SHELVES, THE TRACE");
        WritHouse x = house();
        Due.read(x, 1, "say 1;wants fact 3;");
        x.prove(0, 20);
        x.sheet(0, 2, 3);
        x.put(0, 1, 7);
        x.shelf(0, 0, 1);
        x.act(0, 0, 5);
        x.keep();
        List<Integer> kept = Look.atHost(x);
        Due.feed(x, "say 7;");
        x.alterRow(0, 1, 9);
        x.put(0, 1, 8);
        x.sheet(1, 0, 2);
        x.shelf(1, 1, 0);
        x.shelf(2, 0, 0);
        x.act(0, 1, 5);
        List<Integer> before = Look.atHost(x);
        x.again();
        s.is(Look.atHost(x).equals(before) ? 1 : 0, 1);
        s.is(Look.atHost(x).equals(kept) ? 1 : 0, 0);
        s.got(x.many(11), x.row(0, 1), x.item(0, 2, 1), x.taken(1, 12), x.taken(2, 3), x.many(12)).are(6, 9, 8, 3, 0, 3);
        s.got(x.read(2), x.version(3, 10)).are(3, 7);
        // keep() itself changes nothing of them
        s.got(x.keep(), x.row(0, 1), x.item(0, 2, 1), x.taken(1, 12), x.many(12)).are(1, 9, 8, 3, 3);
    }

    private void again() {
        s.promise(63, "It becomes what was kept latest (which stays): 1.");
        WritHouse x = new WritHouse();
        x.days(1);
        x.keep();
        x.days(1);
        x.keep();
        x.days(1);
        s.got(x.again(), x.many(0), x.again(), x.many(0)).are(1, 2, 1, 2);
        x.days(5);
        s.got(x.many(0), x.again(), x.many(0)).are(7, 1, 2);
        // what was kept does not change with what comes
        WritHouse y = house();
        y.keep();
        for (int round = 0; round < 2; round++) {
            y.slip(1, 0, 500);
            y.enter(0, 1);
            y.again();
        }
        s.is(same(y, house()) ? 1 : 0, 1);

        s.promise(63, "NONE: nothing is kept.");
        WritHouse z = new WritHouse();
        s.is(z.again(), -3);
        z.days(5);
        z.person(0);
        s.got(z.again(), z.many(0), z.many(2)).are(-3, 5, 1);
        s.got(z.keep(), z.again(), z.many(0)).are(1, 1, 5);
    }
}
