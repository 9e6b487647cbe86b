/** Sections 6 and 7 of the Terms and promises 35 to 40, sentence by sentence. */
final class EdgesOfSeals {
    private static final int MIN = Integer.MIN_VALUE, MAX = Integer.MAX_VALUE;

    private final Sentences s;

    EdgesOfSeals(Sentences s) {
        this.s = s;
    }

    void run() {
        termsOfSealing();
        termsOfWhy();
        termsOfFees();
        termsOfRolls();
        termsOfRightRolls();
        seal();
        why();
        crack();
        hamper();
        enter();
        roll();
    }

    /** A house with two persons, of whom person 0 holds all offices, a petition of each, and forms. */
    private static WritHouse house(String... texts) {
        WritHouse x = houseWithoutHolds(texts);
        for (int office = 0; office < 6; office++) x.hold(0, office, 0, 3599);
        return x;
    }

    private static WritHouse houseWithoutHolds(String... texts) {
        WritHouse x = new WritHouse();
        x.person(0);
        x.person(0);
        x.petition(0, 0);
        x.petition(1, 0);
        for (int form = 0; form < texts.length; form++) Due.read(x, form, texts[form]);
        return x;
    }

    private static WritHouse write(WritHouse x, int... versions) {
        for (int v : versions) x.letter(0, v, 0);
        return x;
    }

    private void termsOfSealing() {
        s.terms(6, "SEALS 0 to 3.");
        WritHouse x = write(house("say 1;seals 0 3;"), 0);
        s.got(x.seal(0, 0), x.seal(0, 0), x.letterOf(0, 6)).are(1, 2, 2);
        s.got(x.crack(-1, 0), x.crack(0, 0), x.crack(3, 0), x.crack(4, 0)).are(-1, 1, 1, -1);

        s.terms(6, "A LETTER is SEALED by the seals of its VERSION, in their order, each on a DAY not ahead of the one before (nor of its"
            + " writing), by whom HOLDS OFFICE s on that DAY (s the seal) and is ALIVE;");
        WritHouse y = houseWithoutHolds("say 1;seals 3 0;");
        y.hold(1, 0, 0, 9);
        y.hold(0, 3, 12, 14);
        y.days(10);
        y.letter(0, 0, 0);
        y.days(20);
        // seal 3 comes first: not ahead of the writing, and while its office is held
        s.got(y.seal(0, 9), y.seal(0, 11), y.seal(0, 15), y.seal(0, 12)).are(-4, -4, -4, 1);
        // then seal 0: its office is held no more
        s.is(y.seal(0, 12), -4);
        y.hold(1, 0, 11, 30);
        s.got(y.seal(0, 11), y.letterOf(0, 6)).are(-4, 1);
        y.die(1, 11);
        s.is(y.seal(0, 12), -4);
        y.person(13);
        y.hold(2, 0, 12, 30);
        s.got(y.seal(0, 12), y.seal(0, 13), y.letterOf(0, 7)).are(-4, 2, 13);
        // all on the day of the writing
        WritHouse once = write(house("say 1;seals 2 1 0 3;"), 0);
        s.got(once.seal(0, 0), once.seal(0, 0), once.seal(0, 0), once.letterOf(0, 7), once.seal(0, 0), once.letterOf(0, 7)).are(1, 2, 3, -3, 4, 0);

        s.terms(6, "not while it is VOID;");
        WritHouse z = write(house("say 1 land;seals 0 1;"), 0);
        s.is(z.seal(0, 0), -4);
        z.fill(0, 1, 0);
        z.slip(0, 0, 0);
        s.is(z.seal(0, 0), -4);
        z.slip(0, 0, 1);
        s.is(z.seal(0, 0), 1);
        WritHouse dead = write(house("say person;seals 0 1;"), 0);
        dead.days(5);
        dead.letter(0, 0, 0);
        dead.fill(1, 0, 1);
        s.is(dead.seal(1, 5), 1);
        dead.die(1, 4);
        s.is(dead.seal(1, 5), -4);

        s.terms(6, "it is DONE when all are on it (without seals: as it is written).");
        WritHouse done = house("say 1;seals 0 1;", "say land;");
        done.days(7);
        write(done, 0, 1);
        done.days(7);
        s.got(done.letterOf(0, 7), done.letterOf(1, 7), done.many(13)).are(-3, 7, 1);
        s.got(done.seal(0, 8), done.letterOf(0, 7), done.many(13)).are(1, -3, 1);
        s.got(done.seal(0, 9), done.letterOf(0, 7), done.many(13)).are(2, 9, 2);
        s.got(write(house("say 1;"), 0).letterOf(0, 7), write(house("say 1;"), 0).many(13)).are(0, 1);
    }

    private void termsOfWhy() {
        s.terms(6, "WHY: what bars its next seal on a DAY: 0 nothing; 1 it is DONE; 2 it is VOID; 3 the DAY is ahead of the last seal, or"
            + " its writing; 4 nobody HOLDS the OFFICE then; 5 none who does is ALIVE. (The first one told here.)");
        WritHouse x = houseWithoutHolds("say person;seals 2 1;");
        x.person(12);
        x.days(10);
        x.letter(0, 0, 0);
        x.days(20);
        s.got(x.why(0, 9), x.why(0, 10)).are(2, 2);
        x.fill(0, 0, 0);
        s.got(x.why(0, 9), x.why(0, 10), x.why(0, 3599)).are(3, 4, 4);
        x.hold(2, 2, 10, 13);
        s.got(x.why(0, 9), x.why(0, 11), x.why(0, 12), x.why(0, 13), x.why(0, 14)).are(3, 5, 0, 0, 4);
        x.hold(1, 2, 11, 11);
        s.got(x.why(0, 10), x.why(0, 11)).are(5, 0);
        x.die(1, 10);
        s.is(x.why(0, 11), 5);
        s.is(x.seal(0, 13), 1);
        // now seal 1, not ahead of day 13
        s.got(x.why(0, 12), x.why(0, 13)).are(3, 4);
        x.hold(0, 1, 0, 3599);
        s.got(x.why(0, 12), x.why(0, 13), x.why(0, 3599)).are(3, 0, 0);
        x.die(0, 9);
        s.got(x.why(0, 12), x.why(0, 13)).are(2, 2);
        WritHouse done = write(house("say land;"), 0);
        s.got(done.isVoid(0), done.why(0, 0), done.why(0, 3599)).are(1, 1, 1);

        s.terms(6, "Each SEAL may have CRACKED on a DAY.");
        WritHouse y = write(house("say 1;seals 0;"), 0);
        for (int seal = 0; seal < 4; seal++) s.is(y.crack(seal, seal == 0 ? 0 : 3599), 1);
        for (int seal = 0; seal < 4; seal++) s.is(y.crack(seal, 5), -4);
        // it is none the less put on letters
        s.is(y.seal(0, 0), 1);
    }

    private void termsOfFees() {
        s.terms(6, "FEE of a LETTER is due when it is DONE, on that DAY (the last seal's; without seals that of its writing): that of the"
            + " VERSION;");
        WritHouse x = write(house("say 1;fee 999;seals 0 1;", "say 1;fee 7;", "say 1;"), 0, 1, 2);
        s.is(x.hamper(0, 0), 7);
        x.days(180);
        s.is(x.seal(0, 89), 1);
        s.got(x.hamper(0, 0), x.hamper(1, 0)).are(7, 0);
        s.is(x.seal(0, 90), 2);
        s.got(x.hamper(0, 0), x.hamper(1, 0), x.hamper(2, 0)).are(7, 999, 0);
        x.letter(0, 1, 0);
        s.got(x.hamper(0, 0), x.hamper(1, 0), x.hamper(2, 0)).are(7, 999, 7);
        WritHouse last = write(house("say 1;fee 999;seals 0;"), 0);
        last.days(89);
        last.seal(0, 89);
        s.got(last.hamper(0, 0), last.hamper(1, 0)).are(999, 0);

        s.terms(6, "if the PERSON of the PETITION is POOR (as they are now) it is LET OFF.");
        WritHouse y = house("say 1;fee 5;");
        y.letter(1, 0, 0);
        s.got(y.hamper(0, 1), y.hamper(0, 2)).are(5, 0);
        y.poor(1, true);
        s.got(y.hamper(0, 1), y.hamper(0, 2)).are(5, 0);
        y.poor(0, true);
        s.got(y.hamper(0, 1), y.hamper(0, 2)).are(0, 5);
        y.poor(0, false);
        s.got(y.hamper(0, 1), y.hamper(0, 2)).are(5, 0);

        s.terms(6, "THE HAMPER of a TERM: what was due in it, of LETTERS DONE; PAID and LET OFF.");
        WritHouse z = house("say 1;fee 999;");
        for (int l = 0; l < 24; l++) z.letter(0, 0, l % 3 == 0 ? 1 : 0);
        s.got(z.hamper(0, 0), z.hamper(0, 1), z.hamper(0, 2)).are(24 * 999, 24 * 999, 0);
        z.poor(1, true);
        s.got(z.hamper(0, 0), z.hamper(0, 1), z.hamper(0, 2)).are(24 * 999, 16 * 999, 8 * 999);
        WritHouse undone = write(house("say 1;fee 5;seals 0;"), 0);
        s.got(undone.hamper(0, 0), undone.hamper(0, 1), undone.hamper(0, 2)).are(0, 0, 0);
    }

    private void termsOfRolls() {
        s.terms(7, "ROLLS 0 to 2.");
        WritHouse x = write(house("say 1;roll 0;", "say 1;roll 1;", "say 1;roll 2;"), 0, 1, 2);
        s.got(x.roll(0, 3), x.roll(1, 3), x.roll(2, 3)).are(1, 1, 1);
        s.got(x.roll(0, 4), x.roll(1, 4), x.roll(2, 4)).are(0, 1, 2);
        s.got(x.roll(-1, 0), x.roll(3, 0), x.enter(-1, 0), x.enter(3, 0)).are(-1, -1, -1, -1);

        s.terms(7, "A LETTER that is DONE, of a VERSION with a roll, MUST be on it.");
        WritHouse y = write(house("say 1;roll 1;seals 0 1;", "say 1;", "say land;roll 1;"), 0, 1, 2);
        // a void one that is done, too
        s.got(y.roll(1, 3), y.roll(1, 4)).are(1, 2);
        y.seal(0, 0);
        s.is(y.roll(1, 3), 1);
        y.seal(0, 0);
        s.got(y.roll(1, 3), y.roll(1, 4), y.roll(0, 3), y.roll(2, 3)).are(2, 0, 0, 0);

        s.terms(7, "ENTRIES, 40 at most, of a LETTER on a ROLL, behind all others there.");
        WritHouse z = write(house("say 1;"), 0, 0, 0);
        s.got(z.enter(2, 2), z.enter(2, 0), z.enter(0, 1), z.enter(2, 1)).are(1, 2, 1, 3);
        s.got(z.roll(2, 10), z.roll(2, 11), z.roll(2, 12), z.roll(0, 10)).are(2, 0, 1, 1);
        for (int e = 5; e <= 40; e++) s.is(z.enter(1, 0), e - 4);
        s.got(z.enter(0, 0), z.enter(1, 0), z.enter(2, 0), z.many(9)).are(-2, -2, -2, 40);
        s.got(z.roll(0, 0), z.roll(1, 0), z.roll(2, 0)).are(1, 36, 3);

        s.terms(7, "MISSING: LETTERS that MUST be on a ROLL and have no ENTRY there.");
        WritHouse all = house("say 1;roll 2;");
        for (int l = 0; l < 24; l++) all.letter(0, 0, 0);
        s.got(all.roll(2, 3), all.roll(2, 4)).are(24, 0);
        all.enter(2, 0);
        all.enter(1, 1);
        all.enter(2, 2);
        s.got(all.roll(2, 3), all.roll(2, 4)).are(22, 1);
        for (int l = 1; l < 24; l++) all.enter(2, l);
        s.got(all.roll(2, 3), all.roll(2, 4), all.roll(1, 3)).are(0, -3, 0);
        // an entry that is wrong is one all the same
        s.got(all.roll(2, 1), all.roll(2, 2)).are(3, 2);
    }

    private void termsOfRightRolls() {
        s.terms(7, "A ROLL is RIGHT up to its first ENTRY that is of a LETTER that needn't be on it (1), or was on it already (2), or whose"
            + " DAY of being DONE is ahead of that of the ENTRY before (3).");
        String onRoll0 = "say 1;roll 0;seals 0;";
        // the very first entry: of a letter not done, of another roll's, of none's
        WritHouse x = write(house(onRoll0, "say 1;roll 1;", "say 1;"), 0, 1, 2);
        for (int l = 0; l < 3; l++) {
            WritHouse y = write(house(onRoll0, "say 1;roll 1;", "say 1;"), 0, 1, 2);
            y.enter(0, l);
            s.got(y.roll(0, 1), y.roll(0, 2)).are(0, 1);
        }
        x.enter(0, 0);
        x.seal(0, 0);
        s.got(x.roll(0, 1), x.roll(0, 2)).are(-3, 0);
        x.enter(0, 0);
        s.got(x.roll(0, 1), x.roll(0, 2)).are(1, 2);
        x.enter(0, 1);
        s.got(x.roll(0, 1), x.roll(0, 2)).are(1, 2);
        // one that needn't be on it and was on it already needn't be on it
        WritHouse twice = write(house("say 1;"), 0);
        twice.enter(0, 0);
        twice.enter(0, 0);
        s.got(twice.roll(0, 1), twice.roll(0, 2)).are(0, 1);
        // by days: on the same day, behind it, ahead of it
        WritHouse z = write(house(onRoll0), 0, 0, 0, 0);
        z.days(10);
        z.seal(0, 5);
        z.seal(1, 5);
        z.seal(2, 6);
        z.seal(3, 4);
        z.enter(0, 1);
        z.enter(0, 0);
        z.enter(0, 2);
        s.got(z.roll(0, 1), z.roll(0, 2)).are(-3, 0);
        z.enter(0, 3);
        s.got(z.roll(0, 1), z.roll(0, 2)).are(3, 3);
        WritHouse first = write(house(onRoll0), 0, 0);
        first.days(10);
        first.seal(0, 1);
        first.seal(1, 0);
        first.enter(0, 0);
        first.enter(0, 1);
        s.got(first.roll(0, 1), first.roll(0, 2)).are(1, 3);
        // an entry on another roll is not the one before, and one on it is no entry on this
        WritHouse other = write(house(onRoll0, "say 1;roll 1;seals 0;"), 1, 0);
        other.days(10);
        other.seal(0, 9);
        other.seal(1, 3);
        other.enter(1, 0);
        other.enter(0, 1);
        s.got(other.roll(0, 1), other.roll(0, 2), other.roll(1, 1), other.roll(1, 2)).are(-3, 0, -3, 0);
        other.enter(2, 1);
        s.got(other.roll(0, 1), other.roll(2, 1), other.roll(2, 2)).are(-3, 0, 1);
        // on it already goes ahead of the day
        WritHouse both = write(house(onRoll0), 0, 0);
        both.days(10);
        both.seal(0, 1);
        both.seal(1, 2);
        both.enter(0, 0);
        both.enter(0, 1);
        both.enter(0, 0);
        s.got(both.roll(0, 1), both.roll(0, 2)).are(2, 2);
    }

    private void seal() {
        s.promise(35, "The next seal is put on a LETTER on a DAY: how many are on it.");
        WritHouse x = write(house("say 1;seals 0 1 2 3;"), 0);
        x.days(3);
        s.got(x.seal(0, 0), x.seal(0, 0), x.seal(0, 2), x.seal(0, 3)).are(1, 2, 3, 4);
        s.got(x.letterOf(0, 6), x.letterOf(0, 7)).are(4, 3);

        s.promise(35, "BAD: there is no such LETTER, or DAY (0 to TODAY);");
        WritHouse y = write(house("say 1;seals 0 1;"), 0);
        s.all(-1, y.seal(0, 1), y.seal(0, -1), y.seal(0, 3599), y.seal(0, MIN), y.seal(0, MAX));
        s.all(-1, y.seal(-1, 0), y.seal(1, 0), y.seal(MIN, 0), y.seal(MAX, 0));
        y.days(1);
        s.got(y.seal(0, 2), y.seal(0, 1)).are(-1, 1);
        // a day to come goes ahead of what bars the seal
        s.all(-1, x.seal(0, 4), x.seal(0, -1));

        s.promise(35, "STATE: WHY isn't 0.");
        s.all(-4, x.seal(0, 3), x.seal(0, 0), y.seal(0, 0));
        WritHouse z = write(houseWithoutHolds("say land;seals 0;"), 0);
        s.is(z.seal(0, 0), -4);
        z.fill(0, 0, 0);
        s.is(z.seal(0, 0), -4);
        z.person(1);
        z.hold(2, 0, 0, 0);
        s.got(z.why(0, 0), z.seal(0, 0), z.letterOf(0, 6)).are(5, -4, 0);
        z.hold(1, 0, 0, 0);
        s.got(z.why(0, 0), z.seal(0, 0)).are(0, 1);
    }

    private void why() {
        s.promise(36, "WHY on a DAY.");
        WritHouse x = write(house("say 1;seals 0;"), 0);
        s.got(x.why(0, 0), x.why(0, 3599)).are(0, 0);
        x.seal(0, 0);
        s.got(x.why(0, 0), x.why(0, 3599)).are(1, 1);

        s.promise(36, "BAD: there is no such LETTER, DAY (0 to 3599).");
        s.all(-1, x.why(-1, 0), x.why(1, 0), x.why(MIN, 0), x.why(MAX, 0), new WritHouse().why(0, 0));
        s.all(-1, x.why(0, -1), x.why(0, 3600), x.why(0, MIN), x.why(0, MAX));
    }

    private void crack() {
        s.promise(37, "A SEAL CRACKED on a DAY: 1.");
        WritHouse x = new WritHouse();
        s.got(x.crack(0, 0), x.crack(3, 3599)).are(1, 1);

        s.promise(37, "BAD: there is no such SEAL, DAY;");
        s.all(-1, x.crack(-1, 0), x.crack(4, 0), x.crack(MIN, 0), x.crack(MAX, 0));
        s.all(-1, x.crack(1, -1), x.crack(1, 3600), x.crack(1, MIN), x.crack(1, MAX));
        s.all(-1, x.crack(0, -1), x.crack(0, 3600));
        s.is(x.crack(1, 5), 1);

        s.promise(37, "STATE: it did already.");
        s.all(-4, x.crack(0, 0), x.crack(0, 3599), x.crack(3, 0), x.crack(1, 5));
        s.is(x.crack(2, 5), 1);
    }

    private void hamper() {
        s.promise(38, "THE HAMPER of a TERM (0 to 39): what = 0 due, 1 PAID, 2 LET OFF.");
        WritHouse x = house("say 1;fee 5;");
        x.poor(1, true);
        x.letter(0, 0, 0);
        x.letter(0, 0, 0);
        x.letter(0, 0, 1);
        s.got(x.hamper(0, 0), x.hamper(0, 1), x.hamper(0, 2)).are(15, 10, 5);
        s.got(x.hamper(1, 0), x.hamper(39, 0), x.hamper(39, 1), x.hamper(39, 2)).are(0, 0, 0, 0);

        s.promise(38, "BAD: there is no such TERM, another what.");
        s.all(-1, x.hamper(-1, 0), x.hamper(40, 0), x.hamper(MIN, 0), x.hamper(MAX, 0));
        s.all(-1, x.hamper(0, -1), x.hamper(0, 3), x.hamper(0, MIN), x.hamper(0, MAX));
    }

    private void enter() {
        s.promise(39, "An ENTRY on a ROLL: how many it has.");
        WritHouse x = write(house("say 1;"), 0);
        s.got(x.enter(0, 0), x.enter(0, 0), x.enter(2, 0), x.enter(0, 0), x.enter(1, 0)).are(1, 2, 1, 3, 1);

        s.promise(39, "BAD: there is no such ROLL, LETTER;");
        s.all(-1, x.enter(-1, 0), x.enter(3, 0), x.enter(MIN, 0), x.enter(MAX, 0));
        s.all(-1, x.enter(0, -1), x.enter(0, 1), x.enter(0, MIN), x.enter(0, MAX), new WritHouse().enter(0, 0));
        s.is(x.many(9), 5);

        s.promise(39, "FULL.");
        for (int e = 5; e < 39; e++) x.enter(2, 0);
        s.got(x.enter(2, 0), x.enter(2, 0), x.many(9)).are(36, -2, 40);
        s.all(-1, x.enter(3, 0), x.enter(2, 1));
        s.got(x.roll(2, 0), x.roll(2, 45), x.roll(2, 46)).are(36, 0, -1);
    }

    private void roll() {
        s.promise(40, "Of a ROLL: what = 0 ENTRIES, 1 the first that is wrong (NONE), 2 why it is (0: none is), 3 how many are MISSING, 4 the"
            + " least LETTER that is (NONE), 10 + i the LETTER of ENTRY i.");
        WritHouse x = write(house("say 1;roll 0;"), 0, 0, 0);
        s.got(x.roll(0, 0), x.roll(0, 1), x.roll(0, 2), x.roll(0, 3), x.roll(0, 4)).are(0, -3, 0, 3, 0);
        x.enter(0, 0);
        x.enter(0, 2);
        s.got(x.roll(0, 0), x.roll(0, 1), x.roll(0, 2), x.roll(0, 3), x.roll(0, 4)).are(2, -3, 0, 1, 1);
        s.got(x.roll(0, 10), x.roll(0, 11)).are(0, 2);
        x.enter(0, 2);
        x.enter(0, 1);
        s.got(x.roll(0, 0), x.roll(0, 1), x.roll(0, 2), x.roll(0, 3), x.roll(0, 4)).are(4, 2, 2, 0, -3);
        s.got(x.roll(1, 0), x.roll(1, 1), x.roll(1, 2), x.roll(1, 3), x.roll(1, 4)).are(0, -3, 0, 0, -3);
        WritHouse full = write(house("say 1;"), 0, 0);
        for (int e = 0; e < 40; e++) full.enter(0, e == 39 ? 1 : 0);
        s.got(full.roll(0, 0), full.roll(0, 48), full.roll(0, 49), full.roll(0, 50)).are(40, 0, 1, -1);

        s.promise(40, "BAD: there is no such ROLL, another what, no such ENTRY.");
        s.all(-1, x.roll(-1, 0), x.roll(3, 0), x.roll(MIN, 0), x.roll(MAX, 0));
        s.all(-1, x.roll(0, -1), x.roll(0, 5), x.roll(0, 9), x.roll(0, MIN), x.roll(0, MAX));
        s.all(-1, x.roll(0, 14), x.roll(1, 10), x.roll(2, 10), x.roll(0, 50));
    }
}
