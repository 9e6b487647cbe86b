/** Section 1 of the Terms and promises 1 to 6, sentence by sentence. */
final class EdgesOfDays {
    private static final int MIN = Integer.MIN_VALUE, MAX = Integer.MAX_VALUE;

    private final Sentences s;

    EdgesOfDays(Sentences s) {
        this.s = s;
    }

    void run() {
        termsOfDays();
        termsOfKings();
        termsOfYears();
        newObject();
        days();
        king();
        feast();
        year();
        day();
    }

    private static WritHouse withKing(int begin, boolean movable) {
        WritHouse x = new WritHouse();
        x.king(begin, movable);
        return x;
    }

    private void termsOfDays() {
        s.terms(1, "DAYS are 0 to 3599;");
        WritHouse x = new WritHouse();
        s.all(-1, x.person(-1), x.person(3600), x.person(MIN), x.person(MAX));
        s.is(x.person(0), 0);
        s.is(x.person(3599), 1);
        s.all(1, x.of(0, 0, 6), x.of(0, 3599, 6), x.of(1, 3599, 6));
        s.all(-1, x.of(0, -1, 6), x.of(0, 3600, 6));

        s.terms(1, "TODAY is one (0 at first).");
        s.is(new WritHouse().many(0), 0);
        Due.goTo(x, 3599);
        s.is(x.many(0), 3599);
        s.is(x.days(1), -4);

        s.terms(1, "COMMON YEAR of a DAY: it by 360; its DATE: the rest.");
        WritHouse y = withKing(0, true);
        // his year 2 begins on a date of common year 1, from day 360 to day 719
        y.feast(1, 0);
        s.is(y.year(359, 1), 1);
        s.is(y.year(360, 1), 2);
        y.feast(1, 359);
        s.is(y.year(718, 1), 1);
        s.is(y.year(719, 1), 2);
        s.is(y.day(0, 1, 0, 0), 0);
        s.is(y.day(0, 1, 359, 0), 359);
        s.is(y.day(0, 1, 0, 1), 360);

        s.terms(1, "TERM of a DAY: it by 90.");
        WritHouse z = new WritHouse();
        z.person(0);
        z.petition(0, 0);
        Due.read(z, 0, "say 1;fee 1;");
        z.letter(0, 0, 0);
        Due.goTo(z, 89);
        z.letter(0, 0, 0);
        s.is(z.hamper(0, 0), 2);
        s.is(z.hamper(1, 0), 0);
        Due.goTo(z, 90);
        z.letter(0, 0, 0);
        s.is(z.hamper(0, 0), 2);
        s.is(z.hamper(1, 0), 1);
        Due.goTo(z, 3509);
        z.letter(0, 0, 0);
        s.is(z.hamper(38, 0), 1);
        Due.goTo(z, 3510);
        z.letter(0, 0, 0);
        Due.goTo(z, 3599);
        z.letter(0, 0, 0);
        s.is(z.hamper(38, 0), 1);
        s.is(z.hamper(39, 0), 2);
    }

    private void termsOfKings() {
        s.terms(1, "KINGS, 4 at most, numbered as they come;");
        WritHouse x = new WritHouse();
        for (int k = 0; k < 4; k++) s.is(x.king(k, k % 2 == 0), k);
        s.is(x.king(4, true), -2);
        s.is(x.many(1), 4);

        s.terms(1, "each BEGINS on a DAY behind that on which the one ahead did,");
        WritHouse y = withKing(0, false);
        s.is(y.king(0, false), -4);
        s.is(y.king(1, false), 1);
        s.all(-4, y.king(0, false), y.king(1, true));
        s.is(y.king(3599, false), 2);
        s.all(-4, y.king(3599, false), y.king(3598, false));

        s.terms(1, "and reigns up to the DAY ahead of that on which the next one does");
        WritHouse z = withKing(10, false);
        z.king(11, false);
        z.king(20, true);
        s.all(0, z.year(10, 0));
        s.all(1, z.year(11, 0), z.year(19, 0));
        s.all(2, z.year(20, 0));
        s.all(-3, z.year(9, 0), z.year(0, 0));

        s.terms(1, "(the last one: to DAY 3599).");
        s.is(z.year(3599, 0), 2);
        WritHouse last = withKing(3599, false);
        s.is(last.year(3599, 0), 0);
        s.is(last.day(0, 1, 359, 0), 3599);
    }

    private void termsOfYears() {
        s.terms(1, "He is FIXED: his YEAR n begins 360 (n - 1) DAYS behind his BEGIN;");
        WritHouse x = withKing(359, false);
        s.all(1, x.year(359, 1), x.year(718, 1));
        s.all(2, x.year(719, 1), x.year(1078, 1));
        s.all(3, x.year(1079, 1));
        s.all(9, x.year(3598, 1));
        s.all(10, x.year(3599, 1));
        s.is(withKing(0, false).year(3239, 1), 9);
        s.is(withKing(0, false).year(3240, 1), 10);
        s.is(withKing(0, false).year(3599, 1), 10);

        s.terms(1, "or MOVABLE: YEAR 1 begins with his BEGIN, YEAR n + 1 on THE FEAST of the COMMON YEAR that is n behind"
            + " that of his BEGIN.");
        // begins on the last day of common year 0, on the feast of it, and ahead of it: it is nothing to him
        for (int begin : new int[] {359, 100, 99, 0}) {
            WritHouse y = withKing(begin, true);
            s.all(1, y.year(begin, 1), y.year(459, 1));
            s.all(2, y.year(460, 1), y.year(819, 1));
            s.all(3, y.year(820, 1));
            s.all(9, y.year(3339, 1));
            s.all(10, y.year(3340, 1), y.year(3599, 1));
        }
        WritHouse late = withKing(360, true);
        s.all(1, late.year(460, 1), late.year(819, 1));
        s.all(2, late.year(820, 1));
        s.is(late.day(0, 10, 100, 0), -3);
        s.is(late.day(0, 9, 100, 0), 3340);

        s.terms(1, "THE FEAST of a COMMON YEAR is a DATE of it (100 at first).");
        for (int year = 0; year < 10; year++) s.is(new WritHouse().feast(year, 0), 100);
        WritHouse y = withKing(0, true);
        s.is(y.feast(1, 0), 100);
        s.is(y.year(360, 1), 2);
        s.is(y.feast(9, 359), 100);
        s.is(y.year(3598, 1), 9);
        s.is(y.year(3599, 1), 10);

        s.terms(1, "YEARS go up to the next one, or to the end of his reign; a YEAR that would begin behind this there is not.");
        WritHouse z = withKing(0, false);
        z.king(720, false);
        z.king(721, true);
        // the first one's year 3 would begin with the next king
        s.is(z.day(0, 2, 359, 0), 719);
        s.is(z.day(0, 3, 0, 0), -3);
        s.is(z.year(719, 1), 2);
        // a reign of one day
        s.is(z.day(1, 1, 0, 0), 720);
        s.is(z.day(1, 1, 1, 0), -3);
        s.is(z.day(1, 2, 0, 0), -3);
        s.is(z.year(720, 2), 1);
        // a year that begins on the last day of the reign there is
        z.king(1181, false);
        s.is(z.day(2, 2, 100, 0), 1180);
        s.is(z.day(2, 2, 101, 0), -3);
        s.is(z.year(1180, 1), 2);
        z.feast(3, 101);
        s.is(z.day(2, 2, 101, 0), -3);
        s.is(z.year(1180, 1), 1);
        // and none that would begin behind day 3599
        s.is(withKing(0, false).day(0, 11, 0, 0), -3);
        s.is(withKing(3599, false).day(0, 2, 359, 0), -3);
        s.is(withKing(3239, false).day(0, 2, 359, 0), 3599);
    }

    private void newObject() {
        s.promise(1, "DAY 0; no KINGS, PERSONS, FORMS;");
        WritHouse x = new WritHouse();
        s.all(0, x.many(0), x.many(1), x.many(2), x.many(5));
        s.is(x.year(0, 0), -3);
        s.is(x.poor(0, true), -1);
        for (int form = 0; form < 8; form++) s.all(-3, x.force(form, 0), x.force(form, 3599), x.strike(form));

        s.promise(1, "all else is empty.");
        WritHouse y = new WritHouse();
        for (int what = 3; what <= 14; what++) s.is(y.many(what), 0);
        for (int roll = 0; roll < 3; roll++) s.got(y.roll(roll, 0), y.roll(roll, 1), y.roll(roll, 2), y.roll(roll, 3),
            y.roll(roll, 4)).are(0, -3, 0, 0, -3);
        for (int term = 0; term < 40; term++) s.all(0, y.hamper(term, 0), y.hamper(term, 1), y.hamper(term, 2));
        for (int sheet = 0; sheet < 4; sheet++) s.is(y.item(sheet, 2, 0), -11);
        for (int shelf = 0; shelf < 4; shelf++) s.is(y.taken(shelf, 0), -11);
        for (int seal = 0; seal < 4; seal++) s.is(y.crack(seal, 0), 1);
        s.got(y.plan(1, 0), y.plan(1, 1), y.plan(1, 2), y.plan(1, 10)).are(0, 0, 0, -1);
        s.all(-9, y.row(0, 0), y.word(0, 0));
        s.all(-3, y.trace(0), y.again());
    }

    private void days() {
        s.promise(2, "TODAY goes n (1 to 400) DAYS on: it.");
        WritHouse x = new WritHouse();
        s.is(x.days(1), 1);
        s.is(x.days(400), 401);
        s.is(x.many(0), 401);

        s.promise(2, "BAD: n isn't as told;");
        s.all(-1, x.days(0), x.days(-1), x.days(401), x.days(MAX), x.days(MIN));
        s.is(x.many(0), 401);

        s.promise(2, "STATE: it would be above 3599.");
        WritHouse y = new WritHouse();
        Due.goTo(y, 3200);
        s.is(y.days(400), -4);
        s.is(y.many(0), 3200);
        s.is(y.days(399), 3599);
        s.all(-4, y.days(1), y.days(400));
        s.all(-1, y.days(0), y.days(401), y.days(MAX));
        s.is(y.many(0), 3599);
    }

    private void king() {
        s.promise(3, "A KING BEGINS: his number.");
        WritHouse x = new WritHouse();
        s.got(x.king(0, false), x.king(1, true), x.king(2, true), x.king(3599, false)).are(0, 1, 2, 3);

        s.promise(3, "BAD: there is no such DAY;");
        WritHouse y = new WritHouse();
        s.all(-1, y.king(-1, false), y.king(3600, true), y.king(MIN, true), y.king(MAX, false));
        s.is(y.many(1), 0);
        y.king(3599, true);
        s.all(-1, y.king(-1, false), y.king(3600, false));

        s.promise(3, "STATE: it isn't behind that of the one ahead;");
        s.all(-4, y.king(3599, false), y.king(3598, false), y.king(0, false));
        s.is(y.many(1), 1);
        s.is(y.year(3598, 0), -3);

        s.promise(3, "FULL.");
        WritHouse full = new WritHouse();
        for (int k = 0; k < 4; k++) full.king(k, false);
        s.all(-2, full.king(4, false), full.king(3599, true));
        s.is(full.king(3, false), -4);
        s.is(full.king(3600, false), -1);
        s.is(full.many(1), 4);
        s.is(full.year(4, 0), 3);
    }

    private void feast() {
        s.promise(4, "THE FEAST of a COMMON YEAR (0 to 9): what it was.");
        WritHouse x = new WritHouse();
        s.got(x.feast(0, 0), x.feast(0, 359), x.feast(0, 359), x.feast(0, 100)).are(100, 0, 359, 359);
        s.got(x.feast(9, 359), x.feast(9, 0), x.feast(9, 1)).are(100, 359, 0);
        s.is(x.feast(8, 1), 100);

        s.promise(4, "BAD: there is none such, or no such DATE.");
        s.all(-1, x.feast(-1, 0), x.feast(10, 0), x.feast(MIN, 0), x.feast(MAX, 0));
        s.all(-1, x.feast(3, -1), x.feast(3, 360), x.feast(3, MIN), x.feast(3, MAX));
        s.is(x.feast(3, 0), 100);
    }

    private void year() {
        s.promise(5, "On a DAY: what = 0 the KING, 1 his YEAR, 2 how often its DATE is in that YEAR.");
        WritHouse x = withKing(0, true);
        x.king(400, false);
        s.got(x.year(0, 0), x.year(0, 1), x.year(0, 2)).are(0, 1, 2);
        // year 1 goes to the end of the reign: dates 0 to 39 are in it twice
        s.got(x.year(39, 2), x.year(40, 2), x.year(359, 2), x.year(399, 2)).are(2, 1, 1, 2);
        s.got(x.year(400, 0), x.year(400, 1), x.year(400, 2)).are(1, 1, 1);
        s.got(x.year(3599, 0), x.year(3599, 1), x.year(3599, 2)).are(1, 9, 1);
        WritHouse once = withKing(3599, true);
        s.got(once.year(3599, 0), once.year(3599, 1), once.year(3599, 2)).are(0, 1, 1);

        s.promise(5, "BAD: there is no such DAY, another what;");
        s.all(-1, x.year(-1, 0), x.year(3600, 0), x.year(MIN, 1), x.year(MAX, 2));
        s.all(-1, x.year(0, -1), x.year(0, 3), x.year(0, MIN), x.year(0, MAX));
        WritHouse none = new WritHouse();
        s.all(-1, none.year(3600, 0), none.year(0, 3), none.year(0, -1));

        s.promise(5, "NONE: there is no KING yet.");
        for (int what = 0; what < 3; what++) {
            s.all(-3, none.year(0, what), none.year(3599, what), withKing(5, true).year(4, what), withKing(3599, false).year(0, what));
        }
        s.is(withKing(5, true).year(5, 0), 0);
    }

    private void day() {
        s.promise(6, "The DAY with a DATE in a YEAR of a KING, the k-th of these (from 0 on).");
        WritHouse x = withKing(5, true);
        // year 1 goes from day 5 to day 459
        s.got(x.day(0, 1, 5, 0), x.day(0, 1, 5, 1), x.day(0, 1, 4, 0), x.day(0, 1, 99, 1)).are(5, 365, 364, 459);
        s.got(x.day(0, 2, 100, 0), x.day(0, 2, 99, 0)).are(460, 819);
        s.is(x.day(0, 10, 359, 0), 3599);

        s.promise(6, "BAD: there is no such KING, DATE, year is below 1, or k below 0;");
        s.all(-1, x.day(-1, 1, 5, 0), x.day(1, 1, 5, 0), x.day(MIN, 1, 5, 0), x.day(MAX, 1, 5, 0));
        s.all(-1, x.day(0, 1, -1, 0), x.day(0, 1, 360, 0), x.day(0, 1, MIN, 0), x.day(0, 1, MAX, 0));
        s.all(-1, x.day(0, 0, 5, 0), x.day(0, -1, 5, 0), x.day(0, MIN, 5, 0));
        s.all(-1, x.day(0, 1, 5, -1), x.day(0, 1, 5, MIN));
        s.is(new WritHouse().day(0, 1, 5, 0), -1);
        // each of them ahead of there being no such year or day
        s.all(-1, x.day(1, 99, 5, 9), x.day(0, 99, 360, 9), x.day(0, 0, 5, 9), x.day(0, 99, 5, -1));

        s.promise(6, "NONE: there is no such YEAR, or DAY.");
        s.all(-3, x.day(0, 11, 5, 0), x.day(0, 99, 5, 0), x.day(0, MAX, 5, 0));
        // years whose begin, reckoned by 360 in ints that wrap, would be in his reign
        for (int n : new int[] {1 + (1 << 29), 2 + (1 << 29), 1 + (1 << 30), MAX}) {
            for (int begin : new int[] {0, 5, 3599}) {
                s.all(-3, withKing(begin, false).day(0, n, 359, 0), withKing(begin, true).day(0, n, 359, 0));
            }
        }
        s.all(-3, x.day(0, 1, 5, 2), x.day(0, 1, 100, 1), x.day(0, 1, 4, 1), x.day(0, 1, 5, MAX));
        s.is(x.day(0, 10, 99, 0), -3);
    }
}
