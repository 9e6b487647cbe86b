/** Sections 9 and 10 of the Terms and promises 41 to 44, sentence by sentence. */
final class EdgesOfWitnesses {
    private static final int MIN = Integer.MIN_VALUE, MAX = Integer.MAX_VALUE;

    private final Sentences s;

    EdgesOfWitnesses(Sentences s) {
        this.s = s;
    }

    void run() {
        termsOfWitnesses();
        termsOfForgery();
        termsOfTheYear();
        termsOfFinding();
        witness();
        place();
        could();
        claim();
    }

    private static WritHouse house(String... texts) {
        WritHouse x = new WritHouse();
        x.person(0);
        x.person(0);
        x.petition(0, 0);
        for (int form = 0; form < texts.length; form++) Due.read(x, form, texts[form]);
        return x;
    }

    private static WritHouse withCharter(int day) {
        WritHouse x = house("kind charter;say 1;");
        if (day > 0) x.days(day);
        x.letter(0, 0, 0);
        return x;
    }

    private void termsOfWitnesses() {
        s.terms(9, "WITNESSES of a charter or inspected one, 4 at most: a PERSON as of an OFFICE (or 6: none), at the LETTER's PLACE.");
        String[] kinds = {"letter", "close", "patent", "charter", "writ", "warrant"};
        for (String kind : kinds) {
            WritHouse x = house("say 1;kind " + kind + ";");
            x.letter(0, 0, 0);
            x.letter(0, 0, 0);
            boolean may = kind.equals("charter");
            s.is(x.witness(1, 0, 6), may ? 1 : -4);
            if (may) x.inspect(1, 0);
            for (int i = 2; i <= 4; i++) s.is(x.witness(1, 1, i % 6), may ? i : -4);
            s.is(x.witness(1, 0, 6), may ? -2 : -4);
            // four for each letter
            s.is(x.witness(0, 0, 0), may ? 1 : -4);
        }

        s.terms(9, "Each: 0 they could; 1 not ALIVE on the DAY of writing; 2 not in that OFFICE; 3 not NEAR; 4 nothing is told of where they"
            + " were. (The first.)");
        WritHouse x = withCharter(10);
        x.witness(0, 1, 5);
        x.witness(0, 1, 6);
        s.got(x.could(0, 0), x.could(0, 1)).are(2, 4);
        x.hold(1, 5, 0, 9);
        x.hold(1, 5, 11, 12);
        x.hold(1, 4, 0, 20);
        x.hold(0, 5, 0, 20);
        s.got(x.could(0, 0), x.could(0, 1)).are(2, 4);
        x.hold(1, 5, 10, 10);
        s.got(x.could(0, 0), x.could(0, 1)).are(4, 4);
        x.stay(1, 0, 0, 9);
        x.stay(1, 0, 11, 20);
        x.stay(0, 0, 0, 20);
        s.got(x.could(0, 0), x.could(0, 1)).are(4, 4);
        x.stay(1, 9, 10, 10);
        s.got(x.could(0, 0), x.could(0, 1)).are(3, 3);
        x.place(0, 9);
        s.got(x.could(0, 0), x.could(0, 1)).are(0, 0);
        x.place(0, 0);
        x.stay(1, 0, 10, 10);
        s.got(x.could(0, 0), x.could(0, 1)).are(0, 0);
        x.die(1, 10);
        s.got(x.could(0, 0), x.could(0, 1)).are(0, 0);
        // not alive goes ahead of all the others, not in the office ahead of not near
        WritHouse dead = withCharter(10);
        dead.witness(0, 1, 5);
        dead.witness(0, 1, 6);
        dead.stay(1, 9, 0, 20);
        s.got(dead.could(0, 0), dead.could(0, 1)).are(2, 3);
        dead.die(1, 9);
        s.got(dead.could(0, 0), dead.could(0, 1)).are(1, 1);
        WritHouse unborn = withCharter(10);
        unborn.person(11);
        unborn.person(10);
        unborn.witness(0, 2, 6);
        unborn.witness(0, 3, 6);
        s.got(unborn.could(0, 0), unborn.could(0, 1)).are(1, 4);
    }

    /** What a claim is forged by, the two facts, and whether it is found. */
    private static long[] judged(WritHouse x, int form, int day, int hand, int seal, int year) {
        long[] answers = new long[4];
        for (int what = 0; what < 4; what++) answers[what] = x.claim(form, day, hand, seal, year, what);
        return answers;
    }

    private void termsOfForgery() {
        s.terms(10, "A CLAIM is a told letter: a FORM, a DAY, a HAND, a SEAL, whether it shows the CRACK, a King's YEAR as told.");
        WritHouse x = house("say 1;");
        x.king(0, false);
        x.letter(1, 0, 0);
        s.got(judged(x, 0, 0, 1, 0, 1)).are(0, -3, -3, 1);
        s.got(judged(x, 7, 0, 1, 0, 1)).are(1, 7, 0, 0);
        s.got(judged(x, 0, 1, 1, 0, 1)).are(0, -3, -3, 0);
        s.got(judged(x, 0, 0, 0, 0, 1)).are(0, -3, -3, 0);
        s.got(judged(x, 0, 0, 1, 3, 1)).are(0, -3, -3, 1);
        s.got(judged(x, 0, 0, 1, 7, 1)).are(3, 3, -1, 0);
        s.got(judged(x, 0, 0, 1, 0, 2)).are(4, 2, 1, 0);

        s.terms(10, "FORGED by (the first): 1 no VERSION of the FORM was in force on the DAY (two facts: the FORM, the DAY);");
        WritHouse y = house();
        y.days(10);
        Due.read(y, 7, "say 1;");
        y.days(10);
        y.strike(7);
        y.king(0, false);
        s.got(judged(y, 7, 9, 0, 0, 1)).are(1, 7, 9, 0);
        s.got(judged(y, 7, 10, 0, 0, 1)).are(0, -3, -3, 0);
        s.got(judged(y, 7, 19, 0, 0, 1)).are(0, -3, -3, 0);
        s.got(judged(y, 7, 20, 0, 0, 1)).are(1, 7, 20, 0);
        s.got(judged(y, 0, 3599, 0, 0, 1)).are(1, 0, 3599, 0);
        y.person(30);
        s.got(judged(y, 7, 20, 2, 4, 99)).are(1, 7, 20, 0);

        s.terms(10, "2 the HAND was not ALIVE (HAND, DAY);");
        y.person(11);
        y.die(3, 12);
        s.got(judged(y, 7, 10, 3, 0, 1)).are(2, 3, 10, 0);
        s.got(judged(y, 7, 11, 3, 0, 1)).are(0, -3, -3, 0);
        s.got(judged(y, 7, 12, 3, 0, 1)).are(0, -3, -3, 0);
        s.got(judged(y, 7, 13, 3, 0, 1)).are(2, 3, 13, 0);
        s.got(judged(y, 7, 13, 3, 4, 99)).are(2, 3, 13, 0);
        y.die(0, 0);
        s.got(judged(y, 7, 10, 0, 0, 1)).are(2, 0, 10, 0);

        s.terms(10, "3 it shows the CRACK, and the SEAL had not CRACKED yet, or the other way (SEAL, the DAY of the CRACK, -1: never);");
        WritHouse z = house("say 1;");
        z.king(0, false);
        z.crack(3, 50);
        z.crack(0, 0);
        s.got(judged(z, 0, 49, 0, 3, 1)).are(0, -3, -3, 0);
        s.got(judged(z, 0, 49, 0, 7, 1)).are(3, 3, 50, 0);
        s.got(judged(z, 0, 50, 0, 3, 1)).are(3, 3, 50, 0);
        s.got(judged(z, 0, 50, 0, 7, 1)).are(0, -3, -3, 0);
        s.got(judged(z, 0, 0, 0, 0, 1)).are(3, 0, 0, 0);
        s.got(judged(z, 0, 0, 0, 4, 1)).are(0, -3, -3, 0);
        s.got(judged(z, 0, 50, 0, 2, 1)).are(0, -3, -3, 0);
        s.got(judged(z, 0, 50, 0, 6, 1)).are(3, 2, -1, 0);
        s.got(judged(z, 0, 50, 0, 6, 99)).are(3, 2, -1, 0);
    }

    private void termsOfTheYear() {
        s.terms(10, "4 the KING's YEAR on that DAY was another one (the YEAR as told, the right one; -1: no KING);");
        WritHouse x = house("say 1;");
        s.got(judged(x, 0, 0, 0, 0, 1)).are(4, 1, -1, 0);
        x.king(10, true);
        x.king(500, false);
        s.got(judged(x, 0, 9, 0, 0, 1)).are(4, 1, -1, 0);
        s.got(judged(x, 0, 10, 0, 0, 1)).are(0, -3, -3, 0);
        s.got(judged(x, 0, 459, 0, 0, 2)).are(4, 2, 1, 0);
        s.got(judged(x, 0, 460, 0, 0, 2)).are(0, -3, -3, 0);
        s.got(judged(x, 0, 499, 0, 0, 1)).are(4, 1, 2, 0);
        s.got(judged(x, 0, 500, 0, 0, 1)).are(0, -3, -3, 0);
        s.got(judged(x, 0, 3599, 0, 0, 9)).are(0, -3, -3, 0);
        s.got(judged(x, 0, 3599, 0, 0, MAX)).are(4, MAX, 9, 0);

        s.terms(10, "0: none.");
        s.got(judged(x, 0, 3599, 1, 0, 9)).are(0, -3, -3, 0);
    }

    private void termsOfFinding() {
        s.terms(10, "One that is not FORGED is FOUND, if some LETTER of a VERSION of that FORM was written on the DAY by the HAND; else"
            + " DOUBTFUL.");
        WritHouse x = house("say 1;", "say 2;");
        x.king(0, false);
        x.days(5);
        x.letter(1, 0, 0);
        s.got(x.claim(0, 5, 1, 0, 1, 3), x.claim(1, 5, 1, 0, 1, 3), x.claim(0, 4, 1, 0, 1, 3), x.claim(0, 6, 1, 0, 1, 3),
            x.claim(0, 5, 0, 0, 1, 3)).are(1, 0, 0, 0, 0);
        // of another version of the form, read anew on that day
        Due.read(x, 0, "say 3;");
        s.is(x.claim(0, 5, 1, 0, 1, 3), 1);
        // no letter that all of it is true of, but one of each
        WritHouse y = house("say 1;", "say 2;");
        y.king(0, false);
        y.letter(0, 0, 0);
        y.letter(1, 1, 0);
        s.got(y.claim(0, 0, 1, 0, 1, 3), y.claim(1, 0, 0, 0, 1, 3), y.claim(1, 0, 1, 0, 1, 3)).are(0, 0, 1);
        // the last of all letters
        for (int l = 2; l < 23; l++) y.letter(0, 0, 0);
        y.days(1);
        y.letter(1, 0, 0);
        s.got(y.claim(0, 1, 1, 0, 1, 3), y.claim(0, 1, 0, 0, 1, 3)).are(1, 0);
    }

    private void witness() {
        s.promise(41, "A WITNESS: how many the LETTER has.");
        WritHouse x = withCharter(0);
        x.letter(0, 0, 0);
        s.got(x.witness(0, 0, 6), x.witness(0, 0, 6), x.witness(1, 1, 0), x.witness(0, 1, 5)).are(1, 2, 1, 3);

        s.promise(41, "BAD: there is no such LETTER, PERSON, or office isn't 0 to 6;");
        s.all(-1, x.witness(-1, 0, 6), x.witness(2, 0, 6), x.witness(MIN, 0, 6), x.witness(MAX, 0, 6));
        s.all(-1, x.witness(0, -1, 6), x.witness(0, 2, 6), x.witness(0, MIN, 6), x.witness(0, MAX, 6));
        s.all(-1, x.witness(0, 0, -1), x.witness(0, 0, 7), x.witness(0, 0, MIN), x.witness(0, 0, MAX));
        s.is(x.could(0, 3), -1);

        s.promise(41, "STATE: it is of another kind;");
        WritHouse y = house("kind patent;say 1;");
        y.letter(0, 0, 0);
        s.got(y.witness(0, 0, 6), y.witness(0, 0, 7), y.witness(0, 2, 6), y.could(0, 0)).are(-4, -1, -1, -1);

        s.promise(41, "FULL.");
        s.is(x.witness(0, 0, 0), 4);
        s.got(x.witness(0, 0, 0), x.witness(0, 1, 6), x.witness(0, 2, 6), x.witness(0, 0, 7)).are(-2, -2, -1, -1);
        s.got(x.could(0, 4), x.witness(1, 0, 0)).are(-1, 2);
    }

    private void place() {
        s.promise(42, "The PLACE of a LETTER (0 at first): what it was.");
        WritHouse x = house("say 1;");
        x.letter(0, 0, 0);
        x.letter(0, 0, 0);
        s.got(x.place(0, 9), x.place(0, 9), x.place(0, 0), x.place(0, 1), x.place(1, 5), x.place(0, 2)).are(0, 9, 9, 0, 0, 1);

        s.promise(42, "BAD: there is no such LETTER, PLACE.");
        s.all(-1, x.place(-1, 0), x.place(2, 0), x.place(MIN, 0), x.place(MAX, 0), new WritHouse().place(0, 0));
        s.all(-1, x.place(0, -1), x.place(0, 10), x.place(0, MIN), x.place(0, MAX));
        s.is(x.place(0, 0), 2);
    }

    private void could() {
        s.promise(43, "Of WITNESS i of a LETTER: 0 to 4 as told.");
        WritHouse x = withCharter(0);
        x.person(1);
        x.stay(0, 0, 0, 0);
        x.stay(1, 1, 0, 0);
        x.person(0);
        x.witness(0, 0, 6);
        x.witness(0, 2, 6);
        x.witness(0, 0, 0);
        x.witness(0, 1, 6);
        s.got(x.could(0, 0), x.could(0, 1), x.could(0, 2), x.could(0, 3)).are(0, 1, 2, 3);
        x.letter(0, 0, 0);
        x.witness(1, 3, 6);
        s.is(x.could(1, 0), 4);

        s.promise(43, "BAD: there is no such LETTER, WITNESS.");
        s.all(-1, x.could(-1, 0), x.could(2, 0), x.could(MIN, 0), x.could(MAX, 0));
        s.all(-1, x.could(0, -1), x.could(0, 4), x.could(1, 1), x.could(0, MIN), x.could(0, MAX));
    }

    private void claim() {
        s.promise(44, "A CLAIM is judged: what = 0 by what it is FORGED (0 to 4), 1, 2 the two facts (NONE, if none), 3 1 if FOUND, else 0 (0,"
            + " too, if FORGED).");
        WritHouse x = house("say 1;");
        x.king(0, false);
        x.letter(0, 0, 0);
        x.person(3599);
        s.got(judged(x, 0, 0, 0, 0, 1)).are(0, -3, -3, 1);
        s.got(judged(x, 1, 0, 0, 0, 1)).are(1, 1, 0, 0);
        s.got(judged(x, 0, 0, 2, 0, 1)).are(2, 2, 0, 0);
        s.got(judged(x, 0, 0, 0, 4, 1)).are(3, 0, -1, 0);
        s.got(judged(x, 0, 0, 0, 0, 3)).are(4, 3, 1, 0);

        s.promise(44, "seal is the SEAL, and 4 more if it shows the CRACK.");
        x.crack(1, 0);
        x.crack(3, 0);
        long[] due = {0, 3, 0, 3, 3, 0, 3, 0};
        for (int seal = 0; seal < 8; seal++) s.is(x.claim(0, 0, 0, seal, 1, 0), due[seal]);
        s.got(x.claim(0, 0, 0, 3, 1, 1), x.claim(0, 0, 0, 6, 1, 1)).are(3, 2);

        s.promise(44, "BAD: there is no such FORM, DAY, HAND, seal isn't 0 to 7, year below 1, another what.");
        s.all(-1, x.claim(-1, 0, 0, 0, 1, 0), x.claim(8, 0, 0, 0, 1, 0), x.claim(MIN, 0, 0, 0, 1, 0), x.claim(MAX, 0, 0, 0, 1, 0));
        s.all(-1, x.claim(0, -1, 0, 0, 1, 0), x.claim(0, 3600, 0, 0, 1, 0), x.claim(0, MIN, 0, 0, 1, 0), x.claim(0, MAX, 0, 0, 1, 0));
        s.all(-1, x.claim(0, 0, -1, 0, 1, 0), x.claim(0, 0, 3, 0, 1, 0), x.claim(0, 0, MIN, 0, 1, 0), x.claim(0, 0, MAX, 0, 1, 0));
        s.all(-1, x.claim(0, 0, 0, -1, 1, 0), x.claim(0, 0, 0, 8, 1, 0), x.claim(0, 0, 0, MIN, 1, 0), x.claim(0, 0, 0, MAX, 1, 0));
        s.all(-1, x.claim(0, 0, 0, 0, 0, 0), x.claim(0, 0, 0, 0, -1, 0), x.claim(0, 0, 0, 0, MIN, 0));
        s.all(-1, x.claim(0, 0, 0, 0, 1, -1), x.claim(0, 0, 0, 0, 1, 4), x.claim(0, 0, 0, 0, 1, MIN), x.claim(0, 0, 0, 0, 1, MAX));
        // of a form that was never read there is one
        s.is(x.claim(7, 3599, 0, 0, 1, 0), 1);
    }
}
