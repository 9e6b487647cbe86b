/** Promises 45 to 52: joins, writs that return, the week. */
public final class ReturnsTest {
    private static final Due DUE = new Due();

    public static void main(String[] args) {
        joins();
        joinsOfSeveralAlike();
        joinsRefused();
        backs();
        returned();
        returns();
        dies();
        tasks();
        plans();
        plansOfSeveralAlike();
        DUE.end("ReturnsTest");
    }

    private static WritHouse house(String... texts) {
        WritHouse x = new WritHouse();
        x.person(0);
        x.petition(0, 0);
        x.petition(0, 0);
        for (int form = 0; form < texts.length; form++) DUE.is(Due.read(x, form, texts[form]), form);
        return x;
    }

    private static void isJoin(String words, int[] numbers, int... due) {
        WritHouse x = house("say " + words + ";");
        x.letter(0, 0, 0);
        x.sheet(3, 2, numbers.length);
        for (int i = 0; i < numbers.length; i++) x.put(3, i, numbers[i]);
        for (int what = 0; what < 4; what++) DUE.is(x.join(0, 3, what), due[what]);
    }

    private static int[] of(int... numbers) {
        return numbers;
    }

    private static void joins() {
        isJoin("1 2 3", of(1, 2, 3), 0, 0, 0, 0);
        isJoin("1 2 3", of(), 3, 3, 0, 0);
        isJoin("1", of(1, 2, 3), 2, 0, 2, 0);
        isJoin("1", of(2, 3, 1), 2, 0, 2, 0);
        isJoin("1 2 3", of(1, 3), 1, 1, 0, 0);
        isJoin("1 2 3", of(1, 9, 3), 1, 0, 0, 1);
        isJoin("1 2 3 4", of(2, 3, 4, 5), 2, 1, 1, 0);
        isJoin("1 2 3 4 5 6", of(7, 8, 9), 6, 3, 0, 3);
        // a place not filled is -1
        isJoin("1 land 3", of(1, -1, 3), 0, 0, 0, 0);
        isJoin("land", of(0), 1, 0, 0, 1);
        // with what is set in
        WritHouse x = house("kind charter;say 4 5;");
        x.letter(0, 0, 0);
        x.letter(0, 0, 0);
        x.inspect(1, 0);
        x.sheet(0, 2, 4);
        for (int i = 0; i < 4; i++) x.put(0, i, 4 + i % 2);
        DUE.is(x.join(1, 0, 0), 0);
        DUE.is(x.join(0, 0, 2), 2);
        // as long as can be
        WritHouse y = house("kind charter;say 0 1 2 3 4 5 6 7 8 9 10 11;");
        for (int l = 0; l < 3; l++) y.letter(0, 0, 0);
        y.inspect(1, 0);
        y.inspect(2, 1);
        y.sheet(0, 2, 40);
        DUE.is(y.join(2, 0, 0), 37);
        DUE.is(y.join(2, 0, 2), 4);
        DUE.is(y.join(2, 0, 3), 33);
        for (int i = 0; i < 40; i++) y.put(0, i, 1000);
        DUE.is(y.join(2, 0, 0), 40);
        DUE.is(y.join(2, 0, 3), 36);
    }

    private static void joinsOfSeveralAlike() {
        // two unlike ones rather than one dropped and one added
        isJoin("1 2", of(2, 1), 2, 0, 0, 2);
        isJoin("1 2", of(2, 3), 2, 0, 0, 2);
        // four either way: adding 9, then dropping two and adding 2, comes later
        isJoin("1 2 3 4", of(9, 1, 4, 2), 4, 0, 0, 4);
        // fewer go before both
        isJoin("1 2 3", of(2, 3, 1), 2, 1, 1, 0);
        isJoin("5 1 2", of(1, 2, 6), 2, 1, 1, 0);
        isJoin("7 1 2 3", of(1, 8, 3), 2, 1, 0, 1);
    }

    private static void joinsRefused() {
        WritHouse x = house("say 1;");
        x.sheet(0, 2, 1);
        DUE.is(x.join(0, 0, 0), -1);
        x.letter(0, 0, 0);
        DUE.is(x.join(-1, 0, 0), -1);
        DUE.is(x.join(1, 0, 0), -1);
        DUE.is(x.join(0, -1, 0), -1);
        DUE.is(x.join(0, 4, 0), -1);
        DUE.is(x.join(0, 0, -1), -1);
        DUE.is(x.join(0, 0, 4), -1);
        DUE.is(x.join(0, 1, 4), -1);
        DUE.is(x.join(0, 1, 0), -11);
        for (int sort = 0; sort < 5; sort++) {
            x.sheet(1, sort, 1);
            DUE.is(x.join(0, 1, 0), sort == 2 ? 1 : -13);
        }
        x.sheet(1, -1, 0);
        DUE.is(x.join(0, 1, 0), -11);
    }

    /** A writ done on day 20, due 70: it returns by day 179, the last of the term of day 90. */
    private static WritHouse withWrit() {
        WritHouse x = house("kind writ;say 1;seals 0;due 70;", "kind close;say 1;");
        x.hold(0, 0, 0, 3599);
        x.days(10);
        x.letter(0, 0, 0);
        x.letter(0, 1, 0);
        x.letter(0, 0, 0);
        x.days(10);
        x.seal(0, 20);
        x.days(200);
        return x;
    }

    private static void backs() {
        WritHouse x = withWrit();
        DUE.is(x.back(-1, 20), -1);
        DUE.is(x.back(3, 20), -1);
        DUE.is(x.back(0, -1), -1);
        DUE.is(x.back(0, 221), -1);
        DUE.is(x.back(1, 20), -4);
        DUE.is(x.back(2, 20), -4);
        DUE.is(x.back(0, 19), -4);
        DUE.is(x.back(0, 179), 1);
        DUE.is(x.back(0, 179), -4);
        DUE.is(x.back(0, 221), -1);
        x.seal(2, 20);
        DUE.is(x.back(2, 180), 2);
        x.letter(0, 0, 0);
        x.seal(3, 220);
        DUE.is(x.back(3, 220), 1);
    }

    private static void returned() {
        WritHouse x = withWrit();
        DUE.is(x.returned(-1, 20), -1);
        DUE.is(x.returned(3, 20), -1);
        DUE.is(x.returned(0, -1), -1);
        DUE.is(x.returned(0, 3600), -1);
        DUE.is(x.returned(1, 20), -4);
        DUE.is(x.returned(2, 20), -4);
        DUE.is(x.returned(0, 20), 0);
        DUE.is(x.returned(0, 179), 0);
        DUE.is(x.returned(0, 180), 3);
        DUE.is(x.returned(0, 3599), 3);
        WritHouse last = withWrit();
        DUE.is(last.back(0, 179), 1);
        DUE.is(last.returned(0, 178), 0);
        DUE.is(last.returned(0, 179), 1);
        DUE.is(last.returned(0, 180), 1);
        x.back(0, 100);
        DUE.is(x.returned(0, 99), 0);
        DUE.is(x.returned(0, 100), 1);
        DUE.is(x.returned(0, 180), 1);
        x.seal(2, 20);
        x.back(2, 200);
        DUE.is(x.returned(2, 179), 0);
        DUE.is(x.returned(2, 180), 3);
        DUE.is(x.returned(2, 199), 3);
        DUE.is(x.returned(2, 200), 2);
    }

    private static void returns() {
        WritHouse x = withWrit();
        DUE.is(x.returns(-1), -1);
        DUE.is(x.returns(3), -1);
        DUE.is(x.returns(1), -4);
        DUE.is(x.returns(2), -4);
        DUE.is(x.returns(0), 179);
        x.seal(2, 19);
        DUE.is(x.returns(2), 89);
        // without seals and due; the last day of all
        WritHouse y = house("kind writ;say 1;", "kind writ;say 1;due 999;");
        for (int i = 0; i < 7; i++) y.days(400);
        y.letter(0, 0, 0);
        y.letter(0, 1, 0);
        DUE.is(y.returns(0), 2879);
        DUE.is(y.returns(1), 3599);
        DUE.is(y.returned(1, 3599), 0);
        y.days(79);
        y.letter(0, 0, 0);
        DUE.is(y.returns(2), 2879);
        y.days(1);
        y.letter(0, 0, 0);
        y.letter(0, 1, 0);
        DUE.is(y.returns(3), 2969);
        DUE.is(y.returns(4), 3599);
    }

    private static void dies() {
        WritHouse x = house("kind writ;say 1;", "kind charter;say 2;");
        x.letter(0, 0, 0);
        x.letter(0, 1, 0);
        x.letter(0, 1, 1);
        x.letter(0, 1, 0);
        x.letter(0, 1, 1);
        x.letter(0, 0, 1);
        DUE.is(x.dies(-1), -1);
        DUE.is(x.dies(6), -1);
        DUE.is(x.dies(1), -4);
        DUE.is(x.dies(0), 0);
        // what hangs on a letter of the petition dies, of whatever petition it is
        x.inspect(2, 1);
        DUE.is(x.dies(0), 1);
        DUE.is(x.dies(5), 0);
        x.inspect(3, 2);
        DUE.is(x.dies(0), 2);
        DUE.is(x.dies(5), 1);
        // each once
        x.inspect(4, 3);
        DUE.is(x.dies(0), 3);
        DUE.is(x.dies(5), 2);
        // what hangs on the writ itself
        x.letter(0, 1, 1);
        x.inspect(6, 0);
        DUE.is(x.dies(0), 4);
        DUE.is(x.dies(5), 2);
        // one that is not done, too
        WritHouse y = house("kind writ;say 1;seals 0;");
        y.letter(0, 0, 0);
        DUE.is(y.dies(0), 0);
    }

    private static void tasks() {
        WritHouse x = new WritHouse();
        DUE.is(x.task(0, 0), -1);
        DUE.is(x.task(6, 0), -1);
        DUE.is(x.task(1, -1), -1);
        DUE.is(x.task(1, 31), -1);
        DUE.is(x.many(10), 0);
        for (int t = 1; t <= 7; t++) DUE.is(x.task(t % 5 + 1, 30), t);
        DUE.is(x.task(1, 0), -2);
        DUE.is(x.task(6, 0), -1);
        DUE.is(x.many(10), 7);
        DUE.is(x.clear(), 7);
        DUE.is(x.many(10), 0);
        DUE.is(x.clear(), 0);
        DUE.is(x.task(5, 0), 1);
    }

    private static void isPlan(int[] tasks, int clerks, int... due) {
        WritHouse x = new WritHouse();
        for (int t = 0; t < tasks.length; t += 2) x.task(tasks[t], tasks[t + 1]);
        for (int what = 0; what < 3; what++) DUE.is(x.plan(clerks, what), due[what]);
        for (int t = 0; t < tasks.length / 2; t++) DUE.is(x.plan(clerks, 10 + t), due[3 + t]);
        DUE.is(x.plan(clerks, 10 + tasks.length / 2), -1);
    }

    private static void plans() {
        WritHouse x = new WritHouse();
        x.task(1, 1);
        for (int clerks : new int[] {-1, 0, 4}) DUE.is(x.plan(clerks, 0), -1);
        for (int what : new int[] {-1, 3, 9, 11, 17}) DUE.is(x.plan(1, what), -1);
        isPlan(of(), 2, 0, 0, 0);
        // one that ends with lengths together l ends on day l
        isPlan(of(3, 3), 1, 0, 0, 0, 0);
        isPlan(of(3, 2), 1, 1, 1, 1, 0);
        isPlan(of(3, 2), 3, 1, 1, 1, 0);
        isPlan(of(3, 3, 1, 4), 1, 0, 0, 0, 0, 0);
        isPlan(of(3, 3, 1, 3), 1, 1, 1, 0, 0, 0);
        isPlan(of(3, 3, 1, 3), 2, 0, 0, 0, 0, 1);
        // by numbers, not by due days
        isPlan(of(5, 30, 1, 1), 1, 1, 5, 0, 0, 0);
        isPlan(of(5, 4, 2, 4, 3, 4), 1, 3, 10 - 4 + 7 - 4 + 5 - 4, 1, 0, 0, 0);
        isPlan(of(5, 0, 5, 0, 5, 0, 5, 0, 5, 0, 5, 0, 5, 0), 1, 7, 140, 7, 0, 0, 0, 0, 0, 0, 0);
        isPlan(of(1, 1, 1, 1, 1, 1), 3, 0, 0, 0, 0, 1, 2);
        isPlan(of(1, 1, 1, 1, 1, 1, 1, 1, 1, 1, 1, 1, 1, 1), 3, 4, 5, 0, 0, 0, 0, 1, 1, 2, 2);
    }

    private static void plansOfSeveralAlike() {
        // nothing late either way: all by the least clerk
        isPlan(of(1, 30, 1, 30, 1, 30), 3, 0, 0, 0, 0, 0, 0);
        // the last two must part: the first as it is, the later one with the greater clerk
        isPlan(of(1, 30, 5, 6, 5, 6), 2, 0, 0, 0, 0, 0, 1);
        // few late go before few days: the second late by 3, rather than the last two by 1 each
        isPlan(of(3, 3, 3, 3, 1, 3, 1, 3), 2, 1, 3, 0, 0, 0, 1, 1);
        // few days go before the lesser clerk: late by 1 and 1, rather than 1 and 2
        isPlan(of(2, 1, 3, 3, 2, 3), 2, 2, 2, 1, 0, 1, 0);
    }
}
