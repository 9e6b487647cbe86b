/** Promises 62 and 63: what is kept, and what is not. */
public final class KeptTest {
    private static final Due DUE = new Due();

    public static void main(String[] args) {
        nothingKept();
        notKept();
        keptTwice();
        lettersThatAreThereNoMore();
        DUE.end("KeptTest");
    }

    private static void nothingKept() {
        WritHouse x = new WritHouse();
        x.days(5);
        DUE.is(x.again(), -3);
        DUE.is(x.many(0), 5);
        DUE.is(x.keep(), 1);
        x.days(5);
        DUE.is(x.again(), 1);
        DUE.is(x.many(0), 5);
    }

    private static WritHouse house() {
        WritHouse x = new WritHouse();
        x.person(0);
        x.person(0);
        x.king(0, true);
        x.petition(0, 0);
        x.hold(0, 0, 0, 3599);
        x.stay(0, 1, 0, 10);
        Due.read(x, 0, "say 1 land;seals 0;fee 5;roll 1;kind charter;");
        Due.read(x, 1, "say 1;kind writ;due 9;fee 3;");
        x.days(10);
        x.letter(0, 0, 0);
        x.letter(0, 0, 0);
        x.letter(0, 1, 0);
        x.task(2, 1);
        x.task(2, 2);
        return x;
    }

    private static void notKept() {
        WritHouse x = house();
        x.strike(1);
        Due.read(x, 1, "say 1;wants fact 3;");
        Due.feed(x, "say");
        DUE.is(x.prove(0, 10), 1);
        x.sheet(0, 2, 3);
        x.put(0, 1, 7);
        x.shelf(0, 0, 1);
        x.shelf(1, 1, 0);
        x.act(0, 0, 5);
        x.keep();
        Due.feed(x, " 7;");
        x.alterRow(0, 1, 9);
        x.put(0, 1, 8);
        x.sheet(1, 0, 2);
        x.shelf(2, 0, 0);
        x.shelf(1, 2, 0);
        x.act(0, 1, 5);
        x.days(5);
        DUE.is(x.again(), 1);
        DUE.is(x.many(0), 10);
        DUE.is(x.many(8), 1);
        DUE.is(x.row(0, 1), 9);
        DUE.is(x.item(0, 2, 1), 8);
        DUE.is(x.item(1, 0, 1), 0);
        DUE.is(x.taken(2, 3), 0);
        DUE.is(x.taken(1, 12), -11);
        DUE.is(x.many(12), 3);
        DUE.is(x.trace(0), 11);
        DUE.is(x.many(11), 6);
        DUE.is(x.read(7), 3);
        DUE.is(x.version(3, 10), 7);
    }

    private static void keptTwice() {
        WritHouse x = new WritHouse();
        x.days(1);
        x.keep();
        x.days(1);
        x.keep();
        x.days(1);
        DUE.is(x.again(), 1);
        DUE.is(x.many(0), 2);
        DUE.is(x.again(), 1);
        DUE.is(x.many(0), 2);
    }

    private static void lettersThatAreThereNoMore() {
        WritHouse x = house();
        x.keep();
        x.letter(0, 1, 0);
        x.shelf(0, 0, 3);
        x.shelf(1, 0, 1);
        DUE.is(x.taken(0, 5), 3);
        x.inspect(1, 0);
        DUE.is(x.taken(1, 4), 1);
        x.again();
        DUE.is(x.taken(0, 5), -11);
        DUE.is(x.taken(0, 6), -11);
        DUE.is(x.taken(0, 12), -11);
        DUE.is(x.act(0, 0, 1), 0);
        DUE.is(x.taken(1, 4), -13);
        DUE.is(x.taken(1, 3), 1);
        DUE.is(x.letterOf(3, 0), -1);
        DUE.is(x.word(1, 2), -9);
        // a version and a petition that were there come anew with the same numbers
        DUE.is(Due.read(x, 5, "say 8 9;"), 2);
        x.again();
        DUE.is(Due.read(x, 6, "say 4;wants fact 2;"), 2);
        DUE.is(x.version(2, 2), 1);
        DUE.is(x.version(2, 9), 2048);
        DUE.is(x.version(2, 11), -1);
    }
}
