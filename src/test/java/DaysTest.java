/** Promises 1 to 6: a new object, days, kings and their years. */
public final class DaysTest {
    private static final Due DUE = new Due();

    public static void main(String[] args) {
        newObject();
        days();
        kings();
        feasts();
        fixedYears();
        movableYears();
        yearsOfAReignThatEnds();
        dayOf();
        DUE.end("DaysTest");
    }

    private static void newObject() {
        WritHouse x = new WritHouse();
        for (int what = 0; what <= 14; what++) DUE.is(x.many(what), 0);
        for (int form = 0; form < 8; form++) DUE.is(x.force(form, 0), -3);
        for (int year = 0; year < 10; year++) DUE.is(x.feast(year, 0), 100);
        for (int roll = 0; roll < 3; roll++) DUE.is(x.roll(roll, 0), 0);
        for (int sheet = 0; sheet < 4; sheet++) DUE.is(x.put(sheet, 0, 0), -11);
        for (int shelf = 0; shelf < 4; shelf++) DUE.is(x.taken(shelf, 0), -11);
        for (int term = 0; term < 40; term++) DUE.is(x.hamper(term, 0), 0);
        DUE.is(x.row(0, 0), -9);
        DUE.is(x.trace(0), -3);
        DUE.is(x.year(0, 0), -3);
        DUE.is(x.plan(1, 0), 0);
        DUE.is(x.clear(), 0);
        DUE.is(x.again(), -3);
    }

    private static void days() {
        WritHouse x = new WritHouse();
        DUE.is(x.days(0), -1);
        DUE.is(x.days(-1), -1);
        DUE.is(x.days(401), -1);
        DUE.is(x.days(Integer.MAX_VALUE), -1);
        DUE.is(x.days(Integer.MIN_VALUE), -1);
        DUE.is(x.many(0), 0);
        DUE.is(x.days(1), 1);
        for (int i = 1; i <= 8; i++) DUE.is(x.days(400), 400 * i + 1);
        DUE.is(x.days(399), -4);
        DUE.is(x.days(401), -1);
        DUE.is(x.many(0), 3201);
        DUE.is(x.days(398), 3599);
        DUE.is(x.days(1), -4);
        DUE.is(x.many(0), 3599);
    }

    private static void kings() {
        WritHouse x = new WritHouse();
        DUE.is(x.king(-1, true), -1);
        DUE.is(x.king(3600, true), -1);
        DUE.is(x.king(0, false), 0);
        DUE.is(x.king(0, false), -4);
        DUE.is(x.king(1, true), 1);
        DUE.is(x.king(500, false), 2);
        DUE.is(x.king(499, false), -4);
        DUE.is(x.king(3599, true), 3);
        // of several refusals the first named
        DUE.is(x.king(3600, true), -1);
        DUE.is(x.king(3599, true), -4);
        DUE.is(x.many(1), 4);
        DUE.is(x.year(0, 0), 0);
        DUE.is(x.year(1, 0), 1);
        DUE.is(x.year(499, 0), 1);
        DUE.is(x.year(500, 0), 2);
        DUE.is(x.year(3598, 0), 2);
        DUE.is(x.year(3599, 0), 3);
        DUE.is(x.year(3599, 1), 1);

        WritHouse full = new WritHouse();
        for (int i = 0; i < 4; i++) DUE.is(full.king(10 * i, false), i);
        DUE.is(full.king(40, false), -2);
        DUE.is(full.king(30, false), -4);
        DUE.is(full.many(1), 4);
        DUE.is(full.year(50, 0), 3);
    }

    private static void feasts() {
        WritHouse x = new WritHouse();
        DUE.is(x.feast(-1, 5), -1);
        DUE.is(x.feast(10, 5), -1);
        DUE.is(x.feast(0, -1), -1);
        DUE.is(x.feast(0, 360), -1);
        DUE.is(x.feast(0, 359), 100);
        DUE.is(x.feast(0, 0), 359);
        DUE.is(x.feast(0, 1), 0);
        DUE.is(x.feast(9, 7), 100);
        DUE.is(x.feast(9, 7), 7);
        DUE.is(x.feast(1, 7), 100);
    }

    private static void fixedYears() {
        WritHouse x = new WritHouse();
        DUE.is(x.year(10, 0), -3);
        x.king(50, false);
        DUE.is(x.year(-1, 0), -1);
        DUE.is(x.year(3600, 0), -1);
        DUE.is(x.year(50, -1), -1);
        DUE.is(x.year(50, 3), -1);
        // a wrong what is named before there being no king
        DUE.is(x.year(0, 3), -1);
        DUE.is(x.year(49, 0), -3);
        DUE.is(x.year(50, 0), 0);
        DUE.is(x.year(50, 1), 1);
        DUE.is(x.year(409, 1), 1);
        DUE.is(x.year(410, 1), 2);
        DUE.is(x.year(3289, 1), 9);
        DUE.is(x.year(3290, 1), 10);
        DUE.is(x.year(3599, 1), 10);
        DUE.is(x.year(50, 2), 1);
        DUE.is(x.year(409, 2), 1);
        // feasts are nothing to a fixed one
        x.feast(1, 51);
        DUE.is(x.year(411, 1), 2);
        DUE.is(x.year(410, 1), 2);
        DUE.is(x.year(409, 1), 1);
    }

    private static void movableYears() {
        WritHouse x = new WritHouse();
        // begins on day 50 of common year 0, ahead of the feast of that year, which begins no year
        x.king(50, true);
        DUE.is(x.year(100, 1), 1);
        DUE.is(x.year(459, 1), 1);
        DUE.is(x.year(460, 1), 2);
        DUE.is(x.year(819, 1), 2);
        DUE.is(x.year(820, 1), 3);
        DUE.is(x.year(3339, 1), 9);
        DUE.is(x.year(3340, 1), 10);
        DUE.is(x.year(3599, 1), 10);
        // year 1 is longer than a common year: dates 50 to 99 are in it twice
        DUE.is(x.year(50, 2), 2);
        DUE.is(x.year(459, 2), 2);
        DUE.is(x.year(99, 2), 2);
        DUE.is(x.year(100, 2), 1);
        DUE.is(x.year(49 + 360, 2), 1);
        // the longest years: a date is in one twice at most
        x.feast(1, 0);
        x.feast(2, 359);
        DUE.is(x.year(359, 1), 1);
        DUE.is(x.year(360, 1), 2);
        DUE.is(x.year(1078, 1), 2);
        DUE.is(x.year(1079, 1), 3);
        DUE.is(x.year(360, 2), 2);
        DUE.is(x.year(1078, 2), 2);
        DUE.is(x.year(719, 2), 1);
        // and the shortest, of a single day
        x.feast(3, 0);
        DUE.is(x.year(1079, 1), 3);
        DUE.is(x.year(1079, 2), 1);
        DUE.is(x.year(1080, 1), 4);
        DUE.is(x.day(0, 3, 358, 0), -3);
        DUE.is(x.day(0, 3, 359, 0), 1079);
        DUE.is(x.day(0, 3, 0, 0), -3);
        DUE.is(x.day(0, 2, 358, 1), 1078);

        WritHouse late = new WritHouse();
        // behind the feast of his own common year: year 2 on that of the next, all the same
        late.king(200, true);
        DUE.is(late.year(459, 1), 1);
        DUE.is(late.year(460, 1), 2);
        WritHouse last = new WritHouse();
        last.king(3240, true);
        DUE.is(last.year(3599, 1), 1);
        DUE.is(last.day(0, 2, 100, 0), -3);
        DUE.is(last.day(0, 1, 359, 0), 3599);
    }

    private static void yearsOfAReignThatEnds() {
        WritHouse x = new WritHouse();
        x.king(0, false);
        x.king(721, true);
        DUE.is(x.year(720, 1), 3);
        DUE.is(x.year(720, 2), 1);
        DUE.is(x.year(721, 0), 1);
        DUE.is(x.year(721, 1), 1);
        // year 3 has one day, and year 4 there is not
        DUE.is(x.day(0, 3, 0, 0), 720);
        DUE.is(x.day(0, 3, 1, 0), -3);
        DUE.is(x.day(0, 4, 0, 0), -3);
        x.king(1180, false);
        // the feast of common year 3 is day 1180, on which the next one begins
        DUE.is(x.year(1179, 1), 1);
        DUE.is(x.day(1, 1, 99, 0), 819);
        DUE.is(x.day(1, 1, 99, 1), 1179);
        DUE.is(x.day(1, 2, 100, 0), -3);
        x.feast(3, 99);
        DUE.is(x.day(1, 2, 99, 0), 1179);
        DUE.is(x.day(1, 1, 99, 1), -3);
        DUE.is(x.year(1179, 1), 2);
    }

    private static void dayOf() {
        WritHouse x = new WritHouse();
        DUE.is(x.day(0, 1, 0, 0), -1);
        x.king(100, false);
        DUE.is(x.day(-1, 1, 0, 0), -1);
        DUE.is(x.day(1, 1, 0, 0), -1);
        DUE.is(x.day(0, 0, 0, 0), -1);
        DUE.is(x.day(0, 1, -1, 0), -1);
        DUE.is(x.day(0, 1, 360, 0), -1);
        DUE.is(x.day(0, 1, 0, -1), -1);
        // a number not as told is named before there being no such year
        DUE.is(x.day(0, 99, 360, 0), -1);
        DUE.is(x.day(0, 1, 100, 0), 100);
        DUE.is(x.day(0, 1, 99, 0), 459);
        DUE.is(x.day(0, 1, 100, 1), -3);
        DUE.is(x.day(0, 2, 100, 0), 460);
        DUE.is(x.day(0, 10, 100, 0), 3340);
        DUE.is(x.day(0, 10, 359, 0), 3599);
        DUE.is(x.day(0, 10, 99, 0), -3);
        DUE.is(x.day(0, 11, 100, 0), -3);
        DUE.is(x.day(0, Integer.MAX_VALUE, 0, 0), -3);
        DUE.is(x.day(0, 1, 100, Integer.MAX_VALUE), -3);
    }
}
