/** Sections 5 and 8 of the Terms and promises 26 to 34, sentence by sentence. */
final class EdgesOfLetters {
    private static final int MIN = Integer.MIN_VALUE, MAX = Integer.MAX_VALUE;
    private static final String CHARTER = "kind charter;say 1 2;";

    private final Sentences s;

    EdgesOfLetters(Sentences s) {
        this.s = s;
    }

    void run() {
        termsOfWriting();
        termsOfWords();
        termsOfVoid();
        termsOfKinds();
        termsOfStanding();
        termsOfSettingIn();
        termsOfDepthAndDiffering();
        letter();
        fill();
        slip();
        word();
        letterOf();
        isVoid();
        mend();
        inspect();
        differ();
    }

    /** A house with two persons, of whom person 0 holds all offices, petitions of no facts and of fact 0, and forms. */
    private static WritHouse house(String... texts) {
        WritHouse x = new WritHouse();
        x.person(0);
        x.person(0);
        x.petition(0, 0);
        x.petition(1, 1);
        for (int office = 0; office < 6; office++) x.hold(0, office, 0, 3599);
        for (int form = 0; form < texts.length; form++) Due.read(x, form, texts[form]);
        return x;
    }

    /** A house with so many letters of the first form. */
    private static WritHouse letters(int n, String... texts) {
        WritHouse x = house(texts);
        for (int l = 0; l < n; l++) x.letter(0, 0, 0);
        return x;
    }

    private void termsOfWriting() {
        s.terms(5, "LETTERS, 24 at most, numbered as they come, are written TODAY by a HAND (a PERSON) of a VERSION in force, for a"
            + " PETITION that it FITS:");
        WritHouse x = house("say 1;wants fact 0;", "say 2;wants not fact 0;");
        x.days(3);
        for (int l = 0; l < 24; l++) s.is(x.letter(l % 2, l % 2, 1 - l % 2), l);
        s.is(x.letter(0, 0, 1), -2);
        s.got(x.letterOf(0, 1), x.letterOf(0, 2), x.letterOf(0, 3), x.letterOf(0, 4)).are(0, 1, 0, 3);
        s.got(x.letterOf(23, 1), x.letterOf(23, 2), x.letterOf(23, 3), x.letterOf(23, 4)).are(1, 0, 1, 3);
        WritHouse y = house("say 1;wants fact 0;", "say 2;");
        s.is(y.letter(0, 0, 0), -4);
        y.strike(1);
        s.is(y.letter(0, 1, 0), -4);
        s.is(y.letter(0, 0, 1), 0);
    }

    private void termsOfWords() {
        s.terms(5, "its words are the ITEMS (PLACES not yet filled).");
        WritHouse x = letters(1, "say 0 person 999 land amount;");
        s.got(x.word(0, 0), x.word(0, 1), x.word(0, 2), x.word(0, 3), x.word(0, 4), x.word(0, 5)).are(0, -1, 999, -1, -1, -9);
        WritHouse full = letters(1, "say 1 2 3 4 5 6 7 8 9 10 11 12;");
        s.got(full.letterOf(0, 5), full.word(0, 11), full.word(0, 12)).are(12, 12, -9);

        s.terms(5, "PLACES are filled by numbers 0 to 999 (of a person: a PERSON; of land: 0 to 99).");
        s.got(x.fill(0, 1, 0), x.fill(0, 1, 1), x.fill(0, 1, 2), x.fill(0, 1, -1)).are(1, 1, -1, -1);
        s.got(x.fill(0, 3, 0), x.fill(0, 3, 99), x.fill(0, 3, 100), x.fill(0, 3, -1)).are(1, 1, -1, -1);
        s.got(x.fill(0, 4, 0), x.fill(0, 4, 999), x.fill(0, 4, 1000), x.fill(0, 4, -1)).are(1, 1, -1, -1);
        s.got(x.word(0, 1), x.word(0, 3), x.word(0, 4)).are(1, 99, 999);
        // a person born later
        x.person(3599);
        s.is(x.fill(0, 1, 2), 1);

        s.terms(5, "Words may be changed by SLIPS.");
        s.got(x.slip(0, 0, 999), x.slip(0, 0, 0), x.slip(0, 1, 999), x.slip(0, 3, 999)).are(0, 999, 2, 99);
        s.got(x.word(0, 0), x.word(0, 1), x.word(0, 3)).are(0, 999, 999);
    }

    private void termsOfVoid() {
        s.terms(5, "VOID: the first word that is not the ITEM, or PLACE not filled, or person who is not ALIVE on the DAY when it was"
            + " written; none (-1) if all is right.");
        WritHouse x = house("say 0 person land amount 999;");
        x.days(10);
        x.letter(0, 0, 0);
        s.is(x.isVoid(0), 2);
        x.fill(0, 1, 0);
        s.is(x.isVoid(0), 3);
        x.fill(0, 2, 0);
        s.is(x.isVoid(0), 4);
        x.fill(0, 3, 0);
        s.is(x.isVoid(0), 0);
        x.slip(0, 4, 998);
        s.is(x.isVoid(0), 5);
        x.slip(0, 0, 1);
        s.is(x.isVoid(0), 1);
        x.slip(0, 0, 0);
        x.slip(0, 4, 999);
        s.is(x.isVoid(0), 0);
        // died ahead of that day, on it, behind it; born on it, behind it
        int[] born = {0, 0, 0, 10, 11}, died = {9, 10, 11, -1, -1}, due = {2, 0, 0, 0, 2};
        for (int i = 0; i < born.length; i++) {
            int p = x.person(born[i]);
            if (died[i] >= 0) x.die(p, died[i]);
            x.fill(0, 1, p);
            s.is(x.isVoid(0), due[i]);
        }
        // a death told later, and one who is no person
        x.fill(0, 1, 1);
        s.is(x.isVoid(0), 0);
        x.die(1, 9);
        s.is(x.isVoid(0), 2);
        x.slip(0, 1, 999);
        s.is(x.isVoid(0), 2);
        x.slip(0, 1, 0);
        s.is(x.isVoid(0), 0);
        // a slip that changes nothing makes it void no more than it was; one to a number that no land has neither
        x.slip(0, 0, 0);
        s.is(x.isVoid(0), 0);
        WritHouse zero = letters(1, "say land;");
        zero.slip(0, 0, 0);
        s.is(zero.isVoid(0), 0);
    }

    private void termsOfKinds() {
        s.terms(5, "KIND of a LETTER: 0 letter, 1 close, 2 patent, 3 charter (under patent), 4 inspected (under charter), 5 writ (under"
            + " close), 6 warrant; all are letters.");
        String[] kinds = {"letter", "close", "patent", "charter", "charter", "writ", "warrant"};
        boolean[][] under = new boolean[7][7];
        for (int kind = 0; kind < 7; kind++) under[kind][kind] = under[kind][0] = true;
        under[3][2] = under[4][3] = under[4][2] = under[5][1] = true;
        for (int kind = 0; kind < 7; kind++) {
            WritHouse x = letters(2, "say 1;kind " + kinds[kind] + ";");
            if (kind == 4) x.inspect(1, 0);
            s.is(x.letterOf(1, 0), kind);
            x.shelf(0, 0, 1);
            for (int as = 0; as < 7; as++) s.is(x.taken(0, as), under[kind][as] ? 1 : -13);
        }
    }

    private void termsOfStanding() {
        s.terms(5, "A LETTER may stand FOR an older one that is VOID (one for each at most, of the same PETITION), which is MENDED then"
            + " from TODAY on.");
        WritHouse x = letters(4, "say 1;");
        s.is(x.mend(1, 0), -4);
        x.slip(0, 0, 2);
        s.is(x.mend(1, 0), 1);
        s.got(x.letterOf(1, 10), x.letterOf(0, 11), x.letterOf(0, 10), x.letterOf(1, 11)).are(0, 1, -3, -3);
        // neither another one for it, nor it for another one
        x.slip(2, 0, 2);
        s.is(x.mend(3, 0), -4);
        x.slip(1, 0, 2);
        s.is(x.mend(3, 1), 1);
        s.is(x.mend(3, 2), -4);
        s.got(x.letterOf(3, 10), x.letterOf(1, 11), x.letterOf(2, 11)).are(1, 3, -3);
        // a younger one, or of another petition
        WritHouse y = letters(2, "say 1;");
        y.letter(0, 0, 1);
        for (int l = 0; l < 3; l++) y.slip(l, 0, 2);
        s.got(y.mend(0, 1), y.mend(2, 0), y.mend(2, 1), y.mend(1, 0)).are(-4, -4, -4, 1);

        s.terms(5, "What HANGS on a LETTER: those that have it SET IN, and what HANGS on these (each once).");
        WritHouse z = letters(7, "kind charter;say 1;");
        for (int l = 0; l < 7; l++) s.is(z.letterOf(l, 12), 0);
        z.inspect(2, 0);
        z.inspect(3, 0);
        z.inspect(4, 2);
        z.inspect(5, 4);
        z.inspect(6, 1);
        s.got(z.letterOf(0, 12), z.letterOf(1, 12), z.letterOf(2, 12), z.letterOf(3, 12), z.letterOf(4, 12), z.letterOf(5, 12)).are(4, 1, 2, 0, 1, 0);
        // one that hangs already takes what hangs on it along
        z.inspect(1, 0);
        s.got(z.letterOf(0, 12), z.letterOf(1, 12)).are(6, 1);
        WritHouse deep = letters(24, "kind charter;say 1;");
        for (int l = 23; l > 0; l--) deep.inspect(l, l - 1);
        for (int l = 0; l < 24; l++) s.is(deep.letterOf(l, 12), 23 - l);
    }

    private void termsOfSettingIn() {
        s.terms(8, "A LETTER of kind charter may have older LETTERS SET IN (one each, at most, while it has no seal yet):");
        WritHouse x = letters(3, CHARTER + "seals 0;", "kind patent;say 3;", "kind charter;say 4;");
        x.letter(0, 1, 0);
        x.letter(0, 2, 0);
        s.is(x.inspect(3, 0), -4);
        s.is(x.inspect(1, 2), -1);
        s.is(x.seal(1, 0), 1);
        s.is(x.inspect(1, 0), -4);
        s.is(x.inspect(2, 1), 4);
        s.is(x.inspect(2, 0), -4);
        // one without seals is done, and has no seal
        s.is(x.letterOf(4, 7), 0);
        s.is(x.inspect(4, 3), 2);

        s.terms(8, "all words of the older one (with what is SET IN in it, as it is then) come behind its own;");
        WritHouse y = letters(3, "kind charter;say 1 land;");
        y.slip(0, 0, 5);
        s.is(y.inspect(1, 0), 4);
        y.fill(1, 1, 9);
        y.slip(0, 1, 6);
        s.is(y.inspect(2, 1), 6);
        y.slip(1, 2, 8);
        y.slip(1, 0, 8);
        long[] due = {1, -1, 1, 9, 5, -1};
        for (int i = 0; i < due.length; i++) s.is(y.word(2, i), due[i]);
        s.is(y.word(2, 6), -9);

        s.terms(8, "it is INSPECTED (kind 4) then.");
        s.got(y.letterOf(0, 0), y.letterOf(1, 0), y.letterOf(2, 0)).are(3, 4, 4);
        s.is(y.version(0, 1), 3);

        s.terms(8, "(36 words at most in all.)");
        WritHouse z = letters(4, "kind charter;say 1 2 3 4 5 6 7 8 9 10 11 12;", "kind charter;say 13;");
        s.is(z.inspect(1, 0), 24);
        s.is(z.inspect(2, 1), 36);
        s.got(z.word(2, 35), z.word(2, 36)).are(12, -9);
        s.is(z.inspect(3, 2), -2);
        z.letter(0, 1, 0);
        s.is(z.inspect(4, 2), -2);
        s.got(z.letterOf(4, 0), z.letterOf(4, 5), z.letterOf(4, 8), z.word(4, 1)).are(3, 1, -3, -9);
        s.is(z.inspect(4, 1), 25);
    }

    private void termsOfDepthAndDiffering() {
        s.terms(8, "DEPTH of a LETTER: 0, or 1 more than that of the one SET IN.");
        WritHouse x = letters(24, "kind charter;say 1;");
        s.got(x.letterOf(0, 9), x.letterOf(23, 9)).are(0, 0);
        for (int l = 23; l > 0; l--) s.is(x.inspect(l, l - 1), 2);
        for (int l = 0; l < 24; l++) s.is(x.letterOf(l, 9), l);

        s.terms(8, "DIFFER: the first word of what is SET IN that is not as in the older LETTER now (a copy has as many words of it as"
            + " came),");
        WritHouse y = letters(3, CHARTER);
        y.inspect(2, 1);
        // what is set in the older one later did not come
        y.slip(0, 0, 7);
        s.is(y.inspect(1, 0), 4);
        s.is(y.differ(2, 0), -3);
        y.slip(1, 1, 7);
        s.is(y.differ(2, 0), 3);
        y.slip(1, 0, 7);
        s.is(y.differ(2, 0), 2);
        y.slip(2, 2, 7);
        s.is(y.differ(2, 0), 3);
        // an own word is not of what is set in
        y.slip(2, 3, 7);
        y.slip(2, 0, 9);
        s.is(y.differ(2, 0), -3);
        // a place filled there, not here
        WritHouse place = letters(2, "kind charter;say land;");
        place.inspect(1, 0);
        s.is(place.differ(1, 0), -3);
        place.fill(0, 0, 0);
        s.is(place.differ(1, 0), 1);

        s.terms(8, "and the copy that began it: going from the one asked to the one SET IN, and on, as long as there the same word is of"
            + " what is SET IN, too, and not as in the one that is SET IN there; the LETTER where that ends.");
        // letter 4: own 0-1, of 3 own 2-3, of 2 own 4-5, of 1 own 6-7, of 0 own 8-9
        WritHouse z = letters(5, CHARTER);
        for (int l = 1; l < 5; l++) z.inspect(l, l - 1);
        z.slip(4, 9, 50);
        s.got(z.differ(4, 0), z.differ(4, 1)).are(9, 4);
        // unlike in each copy: it began in the one with letter 0 set in
        z.slip(3, 7, 51);
        z.slip(2, 5, 52);
        z.slip(1, 3, 53);
        s.got(z.differ(4, 1), z.differ(3, 1), z.differ(2, 1), z.differ(1, 1)).are(1, 1, 1, 1);
        // like between 2 and 1: from 4 it goes to 3, no further
        z.slip(2, 5, 53);
        s.got(z.differ(4, 1), z.differ(3, 1), z.differ(2, 1), z.differ(1, 1)).are(3, 3, -3, 1);
        s.got(z.differ(4, 0), z.differ(3, 0), z.differ(2, 0), z.differ(1, 0)).are(9, 7, -3, 3);
        // an own word of the one set in, there not of what is set in
        z.slip(3, 1, 60);
        s.got(z.differ(4, 0), z.differ(4, 1)).are(3, 4);
    }

    private void letter() {
        s.promise(26, "A LETTER: its number.");
        WritHouse x = house("say 1;");
        s.got(x.letter(0, 0, 0), x.letter(1, 0, 1), x.letter(0, 0, 0)).are(0, 1, 2);

        s.promise(26, "BAD: there is no such HAND, VERSION, PETITION;");
        s.all(-1, x.letter(-1, 0, 0), x.letter(2, 0, 0), x.letter(MIN, 0, 0), x.letter(MAX, 0, 0));
        s.all(-1, x.letter(0, -1, 0), x.letter(0, 1, 0), x.letter(0, MIN, 0), x.letter(0, MAX, 0));
        s.all(-1, x.letter(0, 0, -1), x.letter(0, 0, 2), x.letter(0, 0, MIN), x.letter(0, 0, MAX));
        s.is(x.many(7), 3);

        s.promise(26, "STATE: the VERSION isn't in force TODAY, or doesn't FIT, or the HAND isn't ALIVE;");
        WritHouse y = house("say 1;wants fact 0;", "say 1;");
        s.is(y.letter(0, 0, 0), -4);
        y.days(10);
        y.die(1, 10);
        s.is(y.letter(1, 1, 0), 0);
        y.strike(1);
        s.is(y.letter(0, 1, 0), -4);
        Due.read(y, 1, "say 1;");
        y.days(1);
        s.got(y.letter(1, 2, 0), y.letter(0, 2, 0)).are(-4, 1);
        y.person(12);
        y.person(11);
        s.got(y.letter(2, 2, 0), y.letter(3, 2, 0)).are(-4, 2);
        s.all(-1, y.letter(2, 2, 2), y.letter(2, 3, 0), y.letter(4, 1, 0));

        s.promise(26, "FULL.");
        WritHouse full = letters(23, "say 1;", "say 2;wants fact 0;");
        s.is(full.letter(0, 0, 0), 23);
        s.is(full.letter(0, 0, 0), -2);
        s.is(full.letter(0, 1, 0), -4);
        full.person(1);
        s.is(full.letter(2, 0, 0), -4);
        s.all(-1, full.letter(3, 0, 0), full.letter(0, 2, 0), full.letter(0, 0, 2));
        s.is(full.many(7), 24);
    }

    private void fill() {
        s.promise(27, "A PLACE of a LETTER (word i) is filled: 1.");
        WritHouse x = letters(2, "say land 5 person;seals 0 1;");
        s.got(x.fill(0, 0, 99), x.fill(0, 2, 1), x.word(0, 0), x.word(0, 2), x.word(1, 0)).are(1, 1, 99, 1, -1);
        s.got(x.fill(0, 0, 0), x.word(0, 0)).are(1, 0);

        s.promise(27, "BAD: there is no such LETTER, word, it is no PLACE of its VERSION, or x isn't as told;");
        s.all(-1, x.fill(-1, 0, 0), x.fill(2, 0, 0), x.fill(MIN, 0, 0), x.fill(MAX, 0, 0));
        s.all(-1, x.fill(0, -1, 0), x.fill(0, 3, 0), x.fill(0, MIN, 0), x.fill(0, MAX, 0));
        s.all(-1, x.fill(0, 1, 5), x.fill(0, 1, 0));
        s.all(-1, x.fill(0, 0, -1), x.fill(0, 0, 100), x.fill(0, 2, -1), x.fill(0, 2, 2), x.fill(0, 2, MAX), x.fill(0, 2, MIN));
        s.got(x.word(0, 0), x.word(0, 1), x.word(0, 2)).are(0, 5, 1);
        WritHouse in = letters(2, "kind charter;say land;");
        in.inspect(1, 0);
        // a place of the one set in is none of its version
        s.got(in.fill(1, 1, 5), in.word(1, 1), in.fill(1, 0, 5)).are(-1, -1, 1);

        s.promise(27, "STATE: it has a seal.");
        s.is(x.seal(0, 0), 1);
        s.got(x.fill(0, 0, 1), x.fill(0, 2, 0), x.word(0, 0), x.word(0, 2)).are(-4, -4, 0, 1);
        s.all(-1, x.fill(0, 1, 1), x.fill(0, 0, 100), x.fill(0, 3, 0));
        s.is(x.fill(1, 0, 1), 1);
        WritHouse done = letters(1, "say land;");
        s.got(done.letterOf(0, 7), done.fill(0, 0, 1)).are(0, 1);
    }

    private void slip() {
        s.promise(28, "A SLIP: word i becomes x: what it was (-1: a PLACE not filled).");
        WritHouse x = letters(2, "kind charter;say 5 land;seals 0 1;");
        s.got(x.slip(0, 0, 0), x.slip(0, 0, 999), x.slip(0, 1, 0), x.slip(0, 1, 1)).are(5, 0, -1, 0);
        s.got(x.word(0, 0), x.word(0, 1), x.word(1, 0), x.word(1, 1)).are(999, 1, 5, -1);

        s.promise(28, "BAD is answered as -9: there is no such LETTER, word (those SET IN, too), or x isn't 0 to 999;");
        s.all(-9, x.slip(-1, 0, 0), x.slip(2, 0, 0), x.slip(MIN, 0, 0), x.slip(MAX, 0, 0));
        s.all(-9, x.slip(0, -1, 0), x.slip(0, 2, 0), x.slip(0, MIN, 0), x.slip(0, MAX, 0));
        s.all(-9, x.slip(0, 0, -1), x.slip(0, 0, 1000), x.slip(0, 0, MIN), x.slip(0, 0, MAX));
        s.got(x.word(0, 0), x.word(0, 1)).are(999, 1);
        x.inspect(1, 0);
        s.got(x.slip(1, 2, 7), x.slip(1, 3, 8), x.slip(1, 4, 9), x.word(1, 2), x.word(1, 3), x.word(0, 0)).are(999, 1, -9, 7, 8, 999);

        s.promise(28, "STATE: it has a seal.");
        WritHouse y = letters(2, "kind charter;say 5;seals 0 1;");
        y.inspect(1, 0);
        s.is(y.seal(1, 0), 1);
        s.got(y.slip(1, 0, 5), y.slip(1, 1, 6), y.word(1, 0), y.word(1, 1)).are(-4, -4, 5, 5);
        s.all(-9, y.slip(1, 2, 5), y.slip(1, 0, 1000), y.slip(1, 0, -1));
        s.is(y.slip(0, 0, 6), 5);
    }

    private void word() {
        s.promise(29, "Word i of a LETTER (those SET IN, too; -1: a PLACE not filled).");
        WritHouse x = letters(2, "kind charter;say 0 person;");
        x.inspect(1, 0);
        s.got(x.word(0, 0), x.word(0, 1), x.word(1, 0), x.word(1, 1), x.word(1, 2), x.word(1, 3)).are(0, -1, 0, -1, 0, -1);

        s.promise(29, "-9: there is none such.");
        s.all(-9, x.word(-1, 0), x.word(2, 0), x.word(MIN, 0), x.word(MAX, 0));
        s.all(-9, x.word(0, -1), x.word(0, 2), x.word(1, 4), x.word(0, MIN), x.word(0, MAX), new WritHouse().word(0, 0));
    }

    private void letterOf() {
        s.promise(30, "Of a LETTER: what = 0 KIND, 1 VERSION, 2 PETITION, 3 HAND, 4 DAY, 5 words, 6 seals on it, 7 the DAY on which it was"
            + " DONE (NONE), 8 the LETTER SET IN (NONE), 9 DEPTH, 10 the one FOR which it stands (NONE), 11 the one that stands FOR it"
            + " (NONE), 12 how many HANG on it.");
        WritHouse x = house("say 7;", "kind charter;say 1 2 3;seals 2 3;");
        x.days(5);
        for (int l = 0; l < 3; l++) x.letter(1, 1, 1);
        long[] fresh = {3, 1, 1, 1, 5, 3, 0, -3, -3, 0, -3, -3, 0};
        for (int what = 0; what < fresh.length; what++) s.is(x.letterOf(1, what), fresh[what]);
        x.slip(0, 0, 9);
        x.mend(1, 0);
        x.inspect(1, 0);
        x.inspect(2, 1);
        x.days(5);
        x.seal(1, 6);
        s.got(x.letterOf(1, 6), x.letterOf(1, 7)).are(1, -3);
        x.seal(1, 8);
        long[] later = {4, 1, 1, 1, 5, 6, 2, 8, 0, 1, 0, -3, 1};
        for (int what = 0; what < later.length; what++) s.is(x.letterOf(1, what), later[what]);
        long[] oldest = {3, 1, 1, 1, 5, 3, 0, -3, -3, 0, -3, 1, 2};
        for (int what = 0; what < oldest.length; what++) s.is(x.letterOf(0, what), oldest[what]);
        // without seals, and written on day 0
        WritHouse y = letters(1, "say 7;");
        long[] plain = {0, 0, 0, 0, 0, 1, 0, 0, -3, 0, -3, -3, 0};
        for (int what = 0; what < plain.length; what++) s.is(y.letterOf(0, what), plain[what]);

        s.promise(30, "BAD: there is none such, another what.");
        s.all(-1, x.letterOf(-1, 0), x.letterOf(3, 0), x.letterOf(MIN, 0), x.letterOf(MAX, 0), new WritHouse().letterOf(0, 0));
        s.all(-1, x.letterOf(0, -1), x.letterOf(0, 13), x.letterOf(0, MIN), x.letterOf(0, MAX));
    }

    private void isVoid() {
        s.promise(31, "VOID of a LETTER, and 1 more (0: all is right).");
        WritHouse x = letters(1, "say 1 2 3 4 5 6 7 8 9 10 11 12;", "say land;");
        s.is(x.isVoid(0), 0);
        x.slip(0, 11, 0);
        s.is(x.isVoid(0), 12);
        x.slip(0, 0, 0);
        s.is(x.isVoid(0), 1);
        x.letter(0, 1, 0);
        s.is(x.isVoid(1), 1);

        s.promise(31, "BAD.");
        s.all(-1, x.isVoid(-1), x.isVoid(2), x.isVoid(MIN), x.isVoid(MAX), new WritHouse().isVoid(0));
    }

    private void mend() {
        s.promise(32, "A LETTER stands FOR another one: 1.");
        WritHouse x = letters(4, "say 1;");
        x.letter(0, 0, 1);
        for (int l = 0; l < 5; l++) x.slip(l, 0, 2);
        s.got(x.mend(3, 0), x.letterOf(3, 10), x.letterOf(0, 11)).are(1, 0, 3);

        s.promise(32, "BAD: there is no such LETTER (either), or they are the same;");
        s.all(-1, x.mend(-1, 0), x.mend(5, 0), x.mend(MIN, 0), x.mend(MAX, 0));
        s.all(-1, x.mend(2, -1), x.mend(2, 5), x.mend(2, MIN), x.mend(2, MAX));
        s.all(-1, x.mend(0, 0), x.mend(2, 2), x.mend(-1, -1), x.mend(5, 5));

        s.promise(32, "STATE: the other is not older (by number), not VOID, of another PETITION, has one, or the first stands for one already.");
        s.all(-4, x.mend(0, 1), x.mend(1, 2), x.mend(2, 3));
        x.slip(1, 0, 1);
        s.is(x.mend(2, 1), -4);
        s.all(-4, x.mend(4, 2), x.mend(4, 0));
        s.all(-4, x.mend(1, 0), x.mend(2, 0));
        s.is(x.mend(3, 2), -4);
        s.got(x.letterOf(3, 10), x.letterOf(0, 11), x.letterOf(2, 11), x.letterOf(1, 11)).are(0, 3, -3, -3);
        // the letter itself may be void, and one that stands may be stood for
        x.letter(0, 0, 0);
        s.is(x.mend(5, 3), 1);
    }

    private void inspect() {
        s.promise(33, "An older LETTER is SET IN: how many words there are.");
        WritHouse x = letters(3, CHARTER, "kind writ;say 3;");
        x.letter(0, 1, 0);
        x.letter(0, 0, 0);
        s.got(x.inspect(2, 0), x.inspect(1, 0), x.inspect(4, 3)).are(4, 4, 3);
        s.got(x.letterOf(2, 8), x.letterOf(1, 8), x.letterOf(4, 8), x.letterOf(0, 8)).are(0, 0, 3, -3);

        s.promise(33, "BAD: there is no such LETTER (either), or the other is not older;");
        s.all(-1, x.inspect(-1, 0), x.inspect(5, 0), x.inspect(MIN, 0), x.inspect(MAX, 0));
        s.all(-1, x.inspect(0, -1), x.inspect(4, -1), x.inspect(4, 5), x.inspect(4, MIN), x.inspect(4, MAX));
        s.all(-1, x.inspect(0, 0), x.inspect(0, 1), x.inspect(3, 4), x.inspect(4, 4));

        s.promise(33, "STATE: the first is not of kind charter, or has a seal;");
        s.all(-4, x.inspect(3, 0), x.inspect(2, 0), x.inspect(4, 0));
        WritHouse y = letters(2, CHARTER + "seals 0 1;");
        y.seal(1, 0);
        s.is(y.inspect(1, 0), -4);
        s.got(y.letterOf(1, 0), y.letterOf(1, 5), y.inspect(1, 1)).are(3, 2, -1);

        s.promise(33, "FULL: more than 36 words.");
        WritHouse z = letters(4, "kind charter;say 1 2 3 4 5 6 7 8 9 10 11 12;", "kind patent;say 1;");
        z.letter(0, 1, 0);
        z.inspect(1, 0);
        s.is(z.inspect(2, 1), 36);
        s.is(z.inspect(3, 2), -2);
        s.got(z.inspect(2, 1), z.inspect(4, 2), z.inspect(3, 3)).are(-4, -4, -1);
        s.got(z.letterOf(3, 0), z.letterOf(3, 5), z.letterOf(3, 9)).are(3, 12, 0);
    }

    private void differ() {
        s.promise(34, "DIFFER: what = 0 the first word (of the one asked, from 0 on), 1 the LETTER where it began.");
        WritHouse x = letters(3, "kind charter;say 1;");
        x.inspect(1, 0);
        x.inspect(2, 1);
        x.slip(1, 1, 9);
        s.got(x.differ(1, 0), x.differ(1, 1)).are(1, 1);
        x.slip(2, 2, 8);
        s.got(x.differ(2, 0), x.differ(2, 1)).are(2, 1);
        x.slip(2, 1, 8);
        s.got(x.differ(2, 0), x.differ(2, 1)).are(1, 2);

        s.promise(34, "BAD: there is no such LETTER, another what;");
        s.all(-1, x.differ(-1, 0), x.differ(3, 0), x.differ(MIN, 0), x.differ(MAX, 0));
        s.all(-1, x.differ(1, -1), x.differ(1, 2), x.differ(1, MIN), x.differ(1, MAX), x.differ(0, 2));

        s.promise(34, "NONE: nothing is SET IN, or nothing differs.");
        x.slip(1, 1, 1);
        s.all(-3, x.differ(0, 0), x.differ(0, 1), x.differ(1, 0), x.differ(1, 1));
    }
}
