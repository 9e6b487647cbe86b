/** Promises 62 and 63: what is kept, and what is not. */
public final class KeptTest {
    private static final Due DUE = new Due();

    public static void main(String[] args) {
        nothingKept();
        allKept();
        notKept();
        keptTwice();
        lettersThatAreThereNoMore();
        DUE.end("KeptTest");
    }

    private static void nothingKept() {
        WritHouse x = new WritHouse();
        x.days(5);
        DUE.is(x.again(), -3);
        DUE.is(x.many(0), 5);
        DUE.is(x.keep(), 1);
        x.days(5);
        DUE.is(x.again(), 1);
        DUE.is(x.many(0), 5);
    }

    private static WritHouse house() {
        WritHouse x = new WritHouse();
        x.person(0);
        x.person(0);
        x.king(0, true);
        x.petition(0, 0);
        x.hold(0, 0, 0, 3599);
        x.stay(0, 1, 0, 10);
        Due.read(x, 0, "say 1 land;seals 0;fee 5;roll 1;kind charter;");
        Due.read(x, 1, "say 1;kind writ;due 9;fee 3;");
        x.days(10);
        x.letter(0, 0, 0);
        x.letter(0, 0, 0);
        x.letter(0, 1, 0);
        x.task(2, 1);
        x.task(2, 2);
        return x;
    }

    /** What there is, as one number for each thing that may change. */
    private static long[] look(WritHouse x) {
        long[] seen = new long[400];
        int n = 0;
        for (int what : new int[] {0, 1, 2, 3, 4, 5, 6, 7, 9, 10, 13, 14}) seen[n++] = x.many(what);
        for (int d = 0; d < 3600; d += 97) seen[n] = seen[n] * 31 + x.year(d, 0) * 7 + x.year(d, 1);
        n++;
        for (int p = 0; p < 3; p++) for (int d : new int[] {0, 5, 10, 20, 30}) {
            for (int what : new int[] {0, 1, 6, 11, 12}) seen[n] = seen[n] * 31 + x.of(p, d, what);
            n++;
        }
        for (int form = 0; form < 3; form++) for (int d : new int[] {0, 10, 20}) seen[n++] = x.force(form, d);
        for (int v = 0; v < 3; v++) for (int what = 0; what < 14; what++) seen[n] = seen[n] * 31 + x.version(v, what);
        n++;
        for (int p = 0; p < 3; p++) for (int v = 0; v < 3; v++) seen[n++] = x.fits(v, p);
        for (int l = 0; l < 4; l++) {
            for (int what = 0; what < 13; what++) seen[n++] = x.letterOf(l, what);
            for (int i = 0; i < 5; i++) seen[n++] = x.word(l, i);
            for (int i = 0; i < 2; i++) seen[n++] = x.could(l, i);
            seen[n++] = x.why(l, 10);
            seen[n++] = x.returned(l, 20);
        }
        for (int r = 0; r < 3; r++) for (int what = 0; what < 5; what++) seen[n++] = x.roll(r, what);
        for (int what = 0; what < 3; what++) seen[n++] = x.hamper(0, what);
        for (int seal = 0; seal < 8; seal++) seen[n++] = x.claim(0, 10, 0, seal, 1, 0);
        for (int what : new int[] {0, 1, 2, 10, 11, 12}) seen[n++] = x.plan(2, what);
        return seen;
    }

    private interface Change {
        void of(WritHouse x);
    }

    private static void allKept() {
        Change[] changes = {
            x -> x.days(7), x -> x.king(500, false), x -> x.feast(1, 9), x -> x.person(5), x -> x.die(0, 10),
            x -> x.poor(0, true), x -> x.stay(1, 2, 0, 30), x -> x.hold(1, 1, 0, 30),
            x -> Due.read(x, 0, "say 3;wants fact 1;"), x -> Due.read(x, 2, "say 3;"), x -> x.strike(1),
            x -> x.petition(1, 3), x -> x.letter(1, 0, 0), x -> x.fill(0, 1, 5), x -> x.slip(0, 0, 5),
            x -> x.mend(1, 0), x -> x.inspect(1, 0), x -> {
                x.fill(0, 1, 5);
                x.seal(0, 10);
            }, x -> x.crack(2, 3), x -> x.enter(0, 1), x -> x.witness(0, 1, 6), x -> {
                x.witness(0, 0, 6);
                x.place(0, 1);
            }, x -> x.back(2, 10), x -> x.task(1, 1), x -> x.clear(),
        };
        long[] first = look(house());
        for (int i = 0; i < changes.length; i++) {
            WritHouse x = house();
            DUE.is(x.keep(), 1);
            changes[i].of(x);
            // the look must see the change, and see it gone again
            if (java.util.Arrays.equals(look(x), first)) System.out.println("change " + i + " is not seen");
            DUE.is(java.util.Arrays.equals(look(x), first) ? 1 : 0, 0);
            DUE.is(x.again(), 1);
            long[] seen = look(x);
            for (int k = 0; k < seen.length; k++) DUE.is(seen[k], first[k]);
            // what is kept stays, and does not change with what comes
            changes[i].of(x);
            DUE.is(x.again(), 1);
            DUE.is(java.util.Arrays.equals(look(x), first) ? 1 : 0, 1);
            // kept behind the change it comes again with it
            changes[i].of(x);
            long[] changed = look(x);
            x.keep();
            for (Change other : changes) other.of(x);
            x.again();
            DUE.is(java.util.Arrays.equals(look(x), changed) ? 1 : 0, 1);
        }
    }

    private static void notKept() {
        WritHouse x = house();
        x.strike(1);
        Due.read(x, 1, "say 1;wants fact 3;");
        Due.feed(x, "say");
        DUE.is(x.prove(0, 10), 1);
        x.sheet(0, 2, 3);
        x.put(0, 1, 7);
        x.shelf(0, 0, 1);
        x.shelf(1, 1, 0);
        x.act(0, 0, 5);
        x.keep();
        Due.feed(x, " 7;");
        x.alterRow(0, 1, 9);
        x.put(0, 1, 8);
        x.sheet(1, 0, 2);
        x.shelf(2, 0, 0);
        x.shelf(1, 2, 0);
        x.act(0, 1, 5);
        x.days(5);
        DUE.is(x.again(), 1);
        DUE.is(x.many(0), 10);
        DUE.is(x.many(8), 1);
        DUE.is(x.row(0, 1), 9);
        DUE.is(x.item(0, 2, 1), 8);
        DUE.is(x.item(1, 0, 1), 0);
        DUE.is(x.taken(2, 3), 0);
        DUE.is(x.taken(1, 12), -11);
        DUE.is(x.many(12), 3);
        DUE.is(x.trace(0), 11);
        DUE.is(x.many(11), 6);
        DUE.is(x.read(7), 3);
        DUE.is(x.version(3, 10), 7);
    }

    private static void keptTwice() {
        WritHouse x = new WritHouse();
        x.days(1);
        x.keep();
        x.days(1);
        x.keep();
        x.days(1);
        DUE.is(x.again(), 1);
        DUE.is(x.many(0), 2);
        DUE.is(x.again(), 1);
        DUE.is(x.many(0), 2);
    }

    private static void lettersThatAreThereNoMore() {
        WritHouse x = house();
        x.keep();
        x.letter(0, 1, 0);
        x.shelf(0, 0, 3);
        x.shelf(1, 0, 1);
        DUE.is(x.taken(0, 5), 3);
        x.inspect(1, 0);
        DUE.is(x.taken(1, 4), 1);
        x.again();
        DUE.is(x.taken(0, 5), -11);
        DUE.is(x.taken(0, 6), -11);
        DUE.is(x.taken(0, 12), -11);
        DUE.is(x.act(0, 0, 1), 0);
        DUE.is(x.taken(1, 4), -13);
        DUE.is(x.taken(1, 3), 1);
        DUE.is(x.letterOf(3, 0), -1);
        DUE.is(x.word(1, 2), -9);
        // a version and a petition that were there come anew with the same numbers
        DUE.is(Due.read(x, 5, "say 8 9;"), 2);
        x.again();
        DUE.is(Due.read(x, 6, "say 4;wants fact 2;"), 2);
        DUE.is(x.version(2, 2), 1);
        DUE.is(x.version(2, 9), 2048);
        DUE.is(x.version(2, 11), -1);
    }
}
