/** Promises 26 to 34: letters, their words, what is set in them. */
public final class LettersTest {
    private static final Due DUE = new Due();

    public static void main(String[] args) {
        written();
        fullOfLetters();
        filled();
        slipsAndWords();
        isVoid();
        mended();
        inspected();
        tooManyWords();
        hangs();
        differs();
        differsFurtherIn();
        DUE.end("LettersTest");
    }

    /** A house of two persons and two petitions, with one form. */
    private static WritHouse house(String text) {
        WritHouse x = new WritHouse();
        x.person(0);
        x.person(0);
        x.petition(0, 0);
        x.petition(1, 1);
        DUE.is(Due.read(x, 0, text), 0);
        return x;
    }

    private static void written() {
        WritHouse x = house("say 5 person;wants fact 0;kind close;seals 0;");
        DUE.is(x.letter(-1, 0, 1), -1);
        DUE.is(x.letter(2, 0, 1), -1);
        DUE.is(x.letter(0, -1, 1), -1);
        DUE.is(x.letter(0, 1, 1), -1);
        DUE.is(x.letter(0, 0, -1), -1);
        DUE.is(x.letter(0, 0, 2), -1);
        DUE.is(x.letter(0, 0, 0), -4);
        DUE.is(x.many(7), 0);
        x.days(7);
        DUE.is(x.letter(1, 0, 1), 0);
        int[] due = {1, 0, 1, 1, 7, 2, 0, -3, -3, 0, -3, -3, 0};
        for (int what = 0; what < due.length; what++) DUE.is(x.letterOf(0, what), due[what]);
        DUE.is(x.letterOf(0, -1), -1);
        DUE.is(x.letterOf(0, 13), -1);
        DUE.is(x.letterOf(-1, 0), -1);
        DUE.is(x.letterOf(1, 0), -1);
        DUE.is(x.word(0, 0), 5);
        DUE.is(x.word(0, 1), -1);
        // alive on the day on which they died, and not behind it
        x.die(1, 7);
        DUE.is(x.letter(1, 0, 1), 1);
        x.days(1);
        DUE.is(x.letter(1, 0, 1), -4);
        DUE.is(x.letter(0, 0, 1), 2);
        x.person(9);
        DUE.is(x.letter(2, 0, 1), -4);
        // not of a version that is in force no more
        DUE.is(Due.read(x, 0, "say 5;"), 1);
        DUE.is(x.letter(0, 0, 1), -4);
        DUE.is(x.letter(0, 1, 1), 3);
        DUE.is(x.letterOf(3, 7), 8);
        x.strike(0);
        DUE.is(x.letter(0, 1, 1), -4);
        DUE.is(x.many(7), 4);
        DUE.is(x.many(13), 1);
    }

    private static void fullOfLetters() {
        WritHouse x = house("say 5;wants not fact 0;");
        for (int l = 0; l < 24; l++) DUE.is(x.letter(0, 0, 0), l);
        DUE.is(x.letter(0, 0, 0), -2);
        DUE.is(x.letter(0, 0, 1), -4);
        DUE.is(x.letter(0, 0, 2), -1);
        DUE.is(x.many(7), 24);
    }

    private static void filled() {
        WritHouse x = house("say 5 person land amount;seals 0;");
        x.hold(0, 0, 0, 3599);
        x.letter(0, 0, 0);
        DUE.is(x.fill(-1, 1, 0), -1);
        DUE.is(x.fill(1, 1, 0), -1);
        DUE.is(x.fill(0, -1, 0), -1);
        DUE.is(x.fill(0, 4, 0), -1);
        DUE.is(x.fill(0, Integer.MAX_VALUE, 0), -1);
        DUE.is(x.fill(0, 0, 5), -1);
        DUE.is(x.fill(0, 1, -1), -1);
        DUE.is(x.fill(0, 1, 2), -1);
        DUE.is(x.fill(0, 1, 1), 1);
        DUE.is(x.fill(0, 2, -1), -1);
        DUE.is(x.fill(0, 2, 100), -1);
        DUE.is(x.fill(0, 2, 99), 1);
        DUE.is(x.fill(0, 3, -1), -1);
        DUE.is(x.fill(0, 3, 1000), -1);
        DUE.is(x.fill(0, 3, 999), 1);
        DUE.is(x.word(0, 1), 1);
        DUE.is(x.word(0, 2), 99);
        DUE.is(x.word(0, 3), 999);
        // again
        DUE.is(x.fill(0, 2, 0), 1);
        DUE.is(x.word(0, 2), 0);
        DUE.is(x.seal(0, 0), 1);
        DUE.is(x.fill(0, 2, 1), -4);
        DUE.is(x.fill(0, 2, 100), -1);
        DUE.is(x.fill(0, 0, 1), -1);
        DUE.is(x.word(0, 2), 0);
        // one without seals is done, and has no seal
        WritHouse y = house("say land;");
        y.letter(0, 0, 0);
        DUE.is(y.letterOf(0, 7), 0);
        DUE.is(y.fill(0, 0, 9), 1);
    }

    private static void slipsAndWords() {
        WritHouse x = house("say 5 land;seals 0;");
        x.hold(0, 0, 0, 3599);
        x.letter(0, 0, 0);
        DUE.is(x.slip(-1, 0, 1), -9);
        DUE.is(x.slip(1, 0, 1), -9);
        DUE.is(x.slip(0, -1, 1), -9);
        DUE.is(x.slip(0, 2, 1), -9);
        DUE.is(x.slip(0, 0, -1), -9);
        DUE.is(x.slip(0, 0, 1000), -9);
        DUE.is(x.slip(0, 0, 6), 5);
        DUE.is(x.slip(0, 0, 999), 6);
        DUE.is(x.slip(0, 1, 500), -1);
        DUE.is(x.slip(0, 1, 0), 500);
        DUE.is(x.word(0, 0), 999);
        DUE.is(x.word(0, 1), 0);
        DUE.is(x.word(-1, 0), -9);
        DUE.is(x.word(1, 0), -9);
        DUE.is(x.word(0, -1), -9);
        DUE.is(x.word(0, 2), -9);
        x.slip(0, 0, 5);
        DUE.is(x.seal(0, 0), 1);
        DUE.is(x.slip(0, 0, 5), -4);
        DUE.is(x.slip(0, 2, 5), -9);
        DUE.is(x.slip(0, 0, 1000), -9);
    }

    private static void isVoid() {
        WritHouse x = house("say 5 person land amount 6;");
        DUE.is(x.isVoid(0), -1);
        x.days(10);
        x.letter(0, 0, 0);
        DUE.is(x.isVoid(-1), -1);
        DUE.is(x.isVoid(1), -1);
        DUE.is(x.isVoid(0), 2);
        DUE.is(x.many(14), 1);
        x.fill(0, 1, 1);
        DUE.is(x.isVoid(0), 3);
        x.fill(0, 2, 0);
        DUE.is(x.isVoid(0), 4);
        x.fill(0, 3, 0);
        DUE.is(x.isVoid(0), 0);
        DUE.is(x.many(14), 0);
        x.slip(0, 4, 5);
        DUE.is(x.isVoid(0), 5);
        x.slip(0, 0, 6);
        DUE.is(x.isVoid(0), 1);
        x.slip(0, 0, 5);
        x.slip(0, 4, 6);
        DUE.is(x.isVoid(0), 0);
        // the person must be alive on the day of writing
        x.die(1, 10);
        DUE.is(x.isVoid(0), 0);
        x.person(11);
        x.fill(0, 1, 2);
        DUE.is(x.isVoid(0), 2);
        x.person(10);
        x.fill(0, 1, 3);
        DUE.is(x.isVoid(0), 0);
        x.person(5);
        x.die(4, 9);
        x.fill(0, 1, 4);
        DUE.is(x.isVoid(0), 2);
        // a slip may name who is no person (yet)
        x.slip(0, 1, 5);
        DUE.is(x.isVoid(0), 2);
        x.person(0);
        DUE.is(x.isVoid(0), 0);
        x.slip(0, 1, 999);
        DUE.is(x.isVoid(0), 2);
    }

    private static void mended() {
        WritHouse x = house("say 5;");
        for (int l = 0; l < 5; l++) x.letter(0, 0, l == 3 ? 1 : 0);
        DUE.is(x.mend(-1, 0), -1);
        DUE.is(x.mend(5, 0), -1);
        DUE.is(x.mend(1, -1), -1);
        DUE.is(x.mend(1, 5), -1);
        DUE.is(x.mend(1, 1), -1);
        DUE.is(x.mend(1, 0), -4);
        x.slip(0, 0, 4);
        x.slip(2, 0, 4);
        DUE.is(x.mend(1, 2), -4);
        DUE.is(x.mend(3, 0), -4);
        DUE.is(x.mend(1, 0), 1);
        DUE.is(x.letterOf(1, 10), 0);
        DUE.is(x.letterOf(0, 11), 1);
        DUE.is(x.letterOf(0, 10), -3);
        DUE.is(x.letterOf(1, 11), -3);
        // one for each: the other has one, and the first stands for one
        DUE.is(x.mend(4, 0), -4);
        x.slip(1, 0, 4);
        DUE.is(x.mend(2, 1), 1);
        DUE.is(x.mend(4, 2), 1);
        x.slip(3, 0, 4);
        DUE.is(x.mend(4, 3), -4);
        DUE.is(x.letterOf(2, 10), 1);
        DUE.is(x.letterOf(2, 11), 4);
        // one that stands for letter 0, too, stands for no other
        x.letter(0, 0, 0);
        DUE.is(x.mend(1, 0), -4);
        WritHouse y = house("say 5;");
        for (int l = 0; l < 3; l++) y.letter(0, 0, 0);
        for (int l = 0; l < 3; l++) y.slip(l, 0, 6);
        DUE.is(y.mend(2, 0), 1);
        DUE.is(y.mend(2, 1), -4);
        DUE.is(y.mend(1, 0), -4);
        DUE.is(y.letterOf(2, 10), 0);
        // it stays void
        DUE.is(x.isVoid(0), 1);
        DUE.is(x.many(14), 4);
    }

    private static void inspected() {
        WritHouse x = house("kind charter;say 1 land;");
        DUE.is(Due.read(x, 1, "kind writ;say 2 3 4;"), 1);
        DUE.is(Due.read(x, 2, "kind charter;say 9;seals 0;"), 2);
        x.hold(0, 0, 0, 3599);
        x.letter(0, 1, 0);
        x.letter(0, 0, 0);
        x.letter(0, 2, 0);
        x.letter(0, 2, 0);
        DUE.is(x.inspect(-1, 0), -1);
        DUE.is(x.inspect(4, 0), -1);
        DUE.is(x.inspect(1, -1), -1);
        DUE.is(x.inspect(1, 4), -1);
        DUE.is(x.inspect(1, 1), -1);
        DUE.is(x.inspect(1, 2), -1);
        DUE.is(x.inspect(0, 0), -1);
        DUE.is(x.letterOf(1, 0), 3);
        DUE.is(x.inspect(1, 0), 5);
        DUE.is(x.letterOf(1, 0), 4);
        DUE.is(x.letterOf(1, 5), 5);
        DUE.is(x.letterOf(1, 8), 0);
        DUE.is(x.letterOf(1, 9), 1);
        int[] words = {1, -1, 2, 3, 4};
        for (int i = 0; i < 5; i++) DUE.is(x.word(1, i), words[i]);
        DUE.is(x.word(1, 5), -9);
        // one each
        DUE.is(x.inspect(1, 0), -4);
        // words set in are no places of the version, but may slip
        DUE.is(x.fill(1, 2, 5), -1);
        DUE.is(x.slip(1, 4, 5), 4);
        DUE.is(x.slip(1, 4, 4), 5);
        // by words that are set in a letter is not void
        x.fill(1, 1, 7);
        DUE.is(x.isVoid(1), 0);
        x.slip(1, 2, 100);
        DUE.is(x.isVoid(1), 0);
        // with what is set in it, and as it is then
        DUE.is(x.inspect(2, 1), 6);
        x.slip(1, 0, 50);
        int[] copied = {9, 1, 7, 100, 3, 4};
        for (int i = 0; i < 6; i++) DUE.is(x.word(2, i), copied[i]);
        DUE.is(x.letterOf(2, 9), 2);
        // not of a kind without, nor with a seal
        x.letter(0, 1, 0);
        DUE.is(x.inspect(4, 0), -4);
        DUE.is(x.seal(3, 0), 1);
        DUE.is(x.inspect(3, 0), -4);
        DUE.is(x.letterOf(3, 0), 3);
        // depth grows with that of the older one
        x.letter(0, 0, 0);
        x.letter(0, 0, 0);
        DUE.is(x.inspect(6, 5), 4);
        DUE.is(x.letterOf(6, 9), 1);
        DUE.is(x.inspect(5, 2), 8);
        DUE.is(x.letterOf(6, 9), 4);
        DUE.is(x.letterOf(6, 5), 4);
    }

    private static void tooManyWords() {
        WritHouse x = house("kind charter;say 0 1 2 3 4 5 6 7 8 9 10 11;");
        DUE.is(Due.read(x, 1, "kind charter;say 1;"), 1);
        for (int l = 0; l < 4; l++) x.letter(0, 0, 0);
        DUE.is(x.inspect(1, 0), 24);
        DUE.is(x.inspect(2, 1), 36);
        DUE.is(x.inspect(3, 2), -2);
        DUE.is(x.letterOf(3, 0), 3);
        DUE.is(x.letterOf(3, 5), 12);
        DUE.is(x.inspect(2, 1), -4);
        DUE.is(x.inspect(3, 3), -1);
        DUE.is(x.inspect(3, 1), 36);
        DUE.is(x.word(3, 35), 11);
        DUE.is(x.word(3, 36), -9);
        DUE.is(x.word(3, 24), 0);
        x.letter(0, 1, 0);
        DUE.is(x.inspect(4, 3), -2);
        DUE.is(x.inspect(4, 1), 25);
    }

    private static void hangs() {
        WritHouse x = house("kind charter;say 1;");
        for (int l = 0; l < 7; l++) x.letter(0, 0, 0);
        x.inspect(1, 0);
        x.inspect(2, 0);
        x.inspect(3, 1);
        x.inspect(4, 1);
        x.inspect(5, 4);
        int[] due = {5, 3, 0, 0, 1, 0, 0};
        for (int l = 0; l < 7; l++) DUE.is(x.letterOf(l, 12), due[l]);
        // the deepest chain of 24, each one set in before it had anything set in
        WritHouse y = house("kind charter;say 1;");
        for (int l = 0; l < 24; l++) y.letter(0, 0, 0);
        for (int l = 23; l > 0; l--) DUE.is(y.inspect(l, l - 1), 2);
        DUE.is(y.letterOf(23, 9), 23);
        DUE.is(y.letterOf(0, 12), 23);
        DUE.is(y.letterOf(22, 12), 1);
        DUE.is(y.slip(0, 0, 7), 1);
        DUE.is(y.differ(1, 0), 1);
        DUE.is(y.differ(2, 0), -3);
    }

    private static void differs() {
        WritHouse x = house("kind charter;say 1 2;");
        for (int l = 0; l < 3; l++) x.letter(0, 0, 0);
        DUE.is(x.differ(-1, 0), -1);
        DUE.is(x.differ(3, 0), -1);
        DUE.is(x.differ(0, -1), -1);
        DUE.is(x.differ(0, 2), -1);
        DUE.is(x.differ(0, 0), -3);
        x.inspect(1, 0);
        DUE.is(x.differ(1, 0), -3);
        // own words are not of what is set in
        x.slip(1, 0, 9);
        DUE.is(x.differ(1, 0), -3);
        x.slip(1, 3, 9);
        DUE.is(x.differ(1, 0), 3);
        DUE.is(x.differ(1, 1), 1);
        x.slip(0, 0, 9);
        DUE.is(x.differ(1, 0), 2);
        x.slip(0, 0, 1);
        x.slip(0, 1, 9);
        DUE.is(x.differ(1, 0), -3);
        // a copy has as many words as came
        x.slip(0, 1, 2);
        x.slip(1, 3, 2);
        x.letter(0, 0, 0);
        DUE.is(x.inspect(3, 2), 4);
        DUE.is(x.inspect(2, 1), 6);
        DUE.is(x.differ(3, 0), -3);
        DUE.is(x.slip(2, 5, 9), 2);
        DUE.is(x.differ(3, 0), -3);
        DUE.is(x.differ(2, 0), 5);
    }

    private static void differsFurtherIn() {
        WritHouse x = house("kind charter;say 1 2;");
        for (int l = 0; l < 4; l++) x.letter(0, 0, 0);
        x.inspect(1, 0);
        x.inspect(2, 1);
        x.inspect(3, 2);
        // letter 3: own 0-1, of 2 own 2-3, of 1 own 4-5, of 0 own 6-7
        x.slip(0, 0, 100);
        x.slip(1, 2, 101);
        x.slip(2, 4, 102);
        x.slip(3, 6, 103);
        DUE.is(x.differ(3, 0), 6);
        DUE.is(x.differ(2, 0), 4);
        DUE.is(x.differ(1, 0), 2);
        // each copy is unlike the one set in it: it began with the innermost copy
        DUE.is(x.differ(3, 1), 1);
        DUE.is(x.differ(2, 1), 1);
        DUE.is(x.differ(1, 1), 1);
        x.slip(1, 2, 100);
        DUE.is(x.differ(3, 1), 2);
        DUE.is(x.differ(2, 1), 2);
        DUE.is(x.differ(1, 0), -3);
        x.slip(2, 4, 100);
        DUE.is(x.differ(3, 1), 3);
        // unlike in an own word of the one set in: the copy itself began it
        x.slip(3, 4, 77);
        DUE.is(x.differ(3, 0), 4);
        DUE.is(x.differ(3, 1), 3);
        x.slip(3, 3, 77);
        DUE.is(x.differ(3, 0), 3);
        DUE.is(x.differ(3, 1), 3);
        x.slip(2, 3, 78);
        x.slip(3, 3, 2);
        // word 4 of letter 3 is word 2 of letter 2, of what is set in there, and unlike word 0 of letter 1
        x.slip(2, 2, 5);
        DUE.is(x.differ(3, 0), 4);
        DUE.is(x.differ(3, 1), 2);
    }
}
