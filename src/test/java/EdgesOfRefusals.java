import java.util.List;

/** What stands ahead of the sections of the Terms: how calls are refused. */
final class EdgesOfRefusals {
    private final Sentences s;

    EdgesOfRefusals(Sentences s) {
        this.s = s;
    }

    void run() {
        refusals();
        nothingChanges();
        nothingChangesWhenFull();
        tapeUsedUp();
        firstNamed();
        answers();
    }

    private void refusals() {
        s.terms(0, "Answers below 0, where not told otherwise, are refusals;");
        WritHouse x = EdgesOfKept.house();
        s.got(x.days(0), x.many(0), x.person(-1), x.many(2), x.letter(5, 0, 0), x.many(7)).are(-1, 20, -1, 2, -1, 3);
        // told otherwise: a place not filled, a bar, an item, an act
        s.got(x.word(1, 1), x.slip(1, 1, 5), x.word(1, 1)).are(-1, -1, 5);
        x.sheet(0, 2, 1);
        s.got(x.put(0, 0, -4), x.item(0, 2, 0)).are(1, -4);
        x.shelf(0, 0, 2);
        s.is(x.act(0, 0, -5), -4);
    }

    /** A house with something of all; its calls are those of a house in which nothing is refused, too. */
    private static WritHouse house() {
        WritHouse x = EdgesOfKept.house();
        Due.read(x, 2, "kind charter;say 1 2 3 4;wants fact 0;");
        x.prove(0, 20);
        x.alterRow(0, 1, 5);
        x.letter(0, 0, 0);
        x.shelf(0, 0, 1);
        x.act(0, 2, 5);
        x.sheet(0, 2, 3);
        x.put(0, 1, 1);
        x.sheet(1, 0, 2);
        x.shelf(1, 1, 0);
        x.crack(1, 5);
        x.die(1, 15);
        x.enter(1, 2);
        x.feed(0, 4);
        return x;
    }

    private void nothingChanges() {
        s.terms(0, "such a call changes nothing");
        List<Integer> due = Look.atAll(house());
        WritHouse x = house();
        s.all(-1, x.days(0), x.days(401), x.king(3600, true), x.feast(10, 5), x.feast(1, 360), x.year(3600, 0), x.day(0, 0, 0, 0));
        s.all(-4, x.king(0, true), x.die(1, 20), x.crack(1, 6));
        s.all(-1, x.person(3600), x.die(0, 3600), x.poor(2, true), x.stay(0, 10, 0, 0), x.stay(0, 1, 1, 0), x.hold(0, 6, 0, 0), x.hold(0, 1, 1, 0));
        s.all(-1, x.of(0, 0, 7), x.feed(1, 9), x.strike(8), x.version(9, 0), x.force(8, 0), x.petition(2, 0), x.petition(0, 4096));
        s.all(-3, x.strike(7), x.force(7, 0), x.day(0, 11, 0, 0));
        s.all(-1, x.fits(9, 0), x.fit(9, 0), x.lack(9, 0), x.prove(9, 0), x.prove(0, 3600), x.judge(9, 0));
        s.all(-9, x.row(9, 0), x.alterRow(9, 0, 5), x.alterRow(0, 2, 5), x.slip(9, 0, 5), x.slip(1, 0, 1000), x.slip(1, 2, 5), x.word(9, 0));
        s.all(-1, x.letter(2, 0, 0), x.letter(0, 9, 0), x.letter(0, 0, 9), x.fill(1, 0, 5), x.fill(1, 1, 100), x.letterOf(0, 13), x.isVoid(9));
        s.all(-4, x.letter(0, 2, 0), x.letter(1, 0, 0), x.fill(0, 1, 6), x.slip(0, 0, 6), x.mend(2, 0), x.mend(0, 1), x.inspect(2, 1));
        s.all(-1, x.mend(1, 1), x.mend(1, 9), x.inspect(1, 1), x.inspect(1, 2), x.differ(1, 2), x.seal(0, 21), x.seal(9, 0), x.why(0, 3600));
        s.all(-4, x.seal(0, 11), x.seal(1, 20), x.seal(2, 20), x.witness(2, 0, 6), x.back(0, 20), x.back(2, 9), x.returned(1, 20),
            x.returns(0), x.dies(0));
        s.all(-1, x.crack(4, 0), x.crack(2, 3600), x.hamper(40, 0), x.enter(3, 0), x.enter(0, 9), x.roll(0, 5),
            x.witness(0, 2, 6), x.witness(0, 0, 7));
        s.all(-1, x.place(0, 10), x.place(9, 0), x.could(0, 4), x.claim(8, 0, 0, 0, 1, 0), x.join(0, 0, 4), x.back(2, 21), x.returned(2, 3600));
        s.all(-1, x.returns(9), x.dies(9), x.task(0, 0), x.task(1, 31), x.plan(4, 0), x.plan(1, 12), x.sheet(0, 5, 1), x.sheet(0, 2, 41));
        s.all(-1, x.put(4, 0, 5), x.item(0, 5, 0), x.comes(4, 0), x.shelf(0, 3, 0), x.shelf(0, 0, 9), x.shelf(0, 1, 4), x.taken(0, 7), x.many(15));
        s.all(-14, x.sheet(0, 2, -1));
        s.all(-13, x.join(0, 1, 0), x.item(0, 1, 0), x.comes(1, 0), x.taken(0, 12), x.taken(1, 0));
        s.all(-12, x.put(0, 3, 5), x.item(0, 2, 3), x.comes(0, 1));
        s.all(-11, x.join(0, 2, 0), x.put(2, 0, 5), x.item(2, 0, 0), x.comes(2, 0), x.taken(2, 0));
        s.all(-3, x.trace(9), x.differ(1, 0), x.again());
        s.is(Look.atAll(x).equals(due) ? 1 : 0, 1);
    }

    /** A house in which there are as many of all as there may be; it takes some 330 calls. */
    private static WritHouse fullHouse() {
        WritHouse x = new WritHouse();
        for (int i = 0; i < 4; i++) x.king(i, i % 2 == 0);
        for (int i = 0; i < 16; i++) x.person(0);
        for (int i = 0; i < 32; i++) x.stay(i % 2, i % 3, i, i);
        for (int i = 0; i < 24; i++) x.hold(i % 2, i % 3, i, i);
        for (int v = 0; v < 16; v++) Due.read(x, v % 3, v < 3 ? "kind charter;say 1 2 3 4 5 6 7;" : "kind charter;say 1 2 3 4 5 6 7 8 9 1 2 3;");
        for (int i = 0; i < 12; i++) x.petition(0, i);
        for (int l = 0; l < 24; l++) x.letter(0, 15, l % 12);
        x.inspect(1, 0);
        x.inspect(2, 1);
        for (int e = 0; e < 40; e++) x.enter(e % 3, e % 24);
        for (int i = 0; i < 4; i++) x.witness(0, i, 6);
        for (int t = 0; t < 7; t++) x.task(1, t);
        for (int i = 0; i < 49; i++) x.feed(0x2020202020202020L, 8);
        x.feed(0, 2);
        return x;
    }

    private void nothingChangesWhenFull() {
        s.terms(0, "such a call changes nothing");
        WritHouse x = fullHouse(), y = fullHouse();
        s.all(-2, x.king(5, true), x.person(0), x.stay(0, 0, 0, 0), x.hold(0, 0, 0, 0), x.petition(0, 0), x.letter(0, 15, 0), x.inspect(3, 2));
        s.all(-2, x.enter(0, 0), x.witness(0, 0, 6), x.task(1, 1), x.feed(0, 7));
        for (int what = 0; what <= 14; what++) s.is(x.many(what), y.many(what));
        for (int l = 0; l < 4; l++) {
            for (int what = 0; what <= 12; what++) s.is(x.letterOf(l, what), y.letterOf(l, what));
        }
        for (int roll = 0; roll < 3; roll++) s.got(x.roll(roll, 0), x.roll(roll, 1), x.roll(roll, 22)).are(y.roll(roll, 0),
            y.roll(roll, 1), y.roll(roll, 22));
        for (int place = 0; place < 3; place++) s.got(x.of(0, 0, 10 + place), x.of(1, 31, 10 + place)).are(y.of(0, 0, 10 + place),
            y.of(1, 31, 10 + place));
        s.got(x.plan(2, 0), x.plan(2, 16), x.could(0, 3), x.year(5, 0)).are(y.plan(2, 0), y.plan(2, 16), y.could(0, 3), 3);
        // the last bytes still find their place
        s.got(x.many(11), x.feed(0, 6), x.read(0), x.many(5), x.version(15, 8)).are(394, 400, -100 - 392, 16, -3);
    }

    private void tapeUsedUp() {
        s.terms(0, "(but that THE TAPE is used up);");
        WritHouse x = new WritHouse();
        for (int v = 0; v < 15; v++) Due.read(x, 0, "say 1;");
        Due.feed(x, "say 1;");
        s.got(x.many(11), x.read(8), x.many(11), x.many(5)).are(6, -1, 0, 15);
        Due.feed(x, "say 1");
        s.got(x.many(11), x.read(0), x.many(11), x.many(5)).are(5, -105, 0, 15);
        Due.feed(x, "say 1;");
        s.got(x.read(0), x.many(11), x.many(5)).are(15, 0, 16);
        Due.feed(x, "say 1;");
        s.got(x.read(0), x.many(11), x.many(5), x.version(15, 8)).are(-2, 0, 16, -3);
        // a refused call of another kind leaves it as it is
        Due.feed(x, "say 1;");
        s.got(x.feed(0, 9), x.strike(8), x.days(0), x.many(11)).are(-1, -1, -1, 6);
    }

    private void firstNamed() {
        s.terms(0, "of several the first named:");
        WritHouse x = fullHouse();
        // BAD ahead of STATE ahead of FULL, as each promise names them
        s.got(x.king(-1, true), x.king(3, true), x.king(4, true)).are(-1, -4, -2);
        s.got(x.letter(16, 0, 0), x.letter(0, 0, 0), x.letter(0, 15, 0)).are(-1, -4, -2);
        s.got(x.inspect(3, 3), x.inspect(2, 1), x.inspect(3, 2)).are(-1, -4, -2);
        s.got(x.witness(0, 16, 6), x.witness(0, 0, 6)).are(-1, -2);
        s.got(x.person(3600), x.stay(16, 0, 0, 0), x.hold(0, 6, 0, 0), x.petition(0, 4096), x.enter(3, 0), x.task(0, 0),
            x.feed(0, 9)).are(-1, -1, -1, -1, -1, -1, -1);
        // of a host: no such thing, another kind, nothing, outside
        x.sheet(1, 1, 1);
        s.got(x.item(4, 2, 9), x.item(1, 2, 9), x.item(0, 2, 9), x.item(1, 1, 9)).are(-1, -13, -11, -12);
        s.got(x.comes(4, 9), x.comes(1, 9), x.comes(0, 9)).are(-1, -13, -11);
        s.got(x.sheet(4, 1, -1), x.sheet(1, 1, -1)).are(-1, -14);
    }

    private void answers() {
        s.terms(0, "BAD (-1) there is no such thing, or a number is not as told; FULL (-2); NONE (-3); STATE (-4);");
        s.got(WritHouse.BAD, WritHouse.FULL, WritHouse.NONE, WritHouse.STATE).are(-1, -2, -3, -4);
        WritHouse x = fullHouse();
        s.got(x.poor(16, true), x.days(0), x.person(0), x.force(7, 0), x.king(0, true)).are(-1, -1, -2, -3, -4);

        s.terms(0, "and what the host refuses: -11 nothing where something is asked, -12 a place outside, -13 a thing of another kind, -14 a"
            + " size below 0, -15 parted by 0.");
        WritHouse y = EdgesOfKept.house();
        Due.read(y, 2, "say 1 2 3 4;");
        y.letter(0, 2, 0);
        y.shelf(0, 0, 3);
        y.sheet(0, 0, 1);
        s.got(y.item(1, 0, 0), y.taken(1, 0), y.item(0, 0, 1), y.item(0, 1, 0), y.taken(0, 1), y.sheet(0, 0, -1), y.act(0, 3, 5))
            .are(-11, -11, -12, -13, -13, -14, -15);
    }
}
