/** Sections 11 and 12 of the Terms and promises 45 to 52, sentence by sentence. */
final class EdgesOfReturns {
    private static final int MIN = Integer.MIN_VALUE, MAX = Integer.MAX_VALUE;

    private final Sentences s;

    EdgesOfReturns(Sentences s) {
        this.s = s;
    }

    void run() {
        termsOfJoins();
        termsOfReturns();
        termsOfTheWeek();
        termsOfThePlan();
        join();
        back();
        returned();
        returns();
        dies();
        task();
        clear();
        plan();
    }

    private static WritHouse house(String... texts) {
        WritHouse x = new WritHouse();
        x.person(0);
        x.petition(0, 0);
        x.petition(0, 0);
        for (int office = 0; office < 4; office++) x.hold(0, office, 0, 3599);
        for (int form = 0; form < texts.length; form++) Due.read(x, form, texts[form]);
        return x;
    }

    private static WritHouse withLetter(String text) {
        WritHouse x = house(text);
        x.letter(0, 0, 0);
        return x;
    }

    /** All that a join of words and numbers tells: how many, words dropped, numbers added, unlike ones. */
    private static long[] joined(String words, int... numbers) {
        WritHouse x = withLetter("say " + words + ";");
        x.sheet(0, 2, numbers.length);
        for (int i = 0; i < numbers.length; i++) x.put(0, i, numbers[i]);
        return joined(x, 0, 0);
    }

    private static long[] joined(WritHouse x, int letter, int sheet) {
        long[] answers = new long[4];
        for (int what = 0; what < 4; what++) answers[what] = x.join(letter, sheet, what);
        return answers;
    }

    private void termsOfJoins() {
        s.terms(11, "JOIN of a LETTER and a SHEET of ints: words against numbers: the fewest words dropped, numbers added, and words that"
            + " stand for unlike numbers;");
        s.got(joined("1 2 3", 1, 2, 3)).are(0, 0, 0, 0);
        s.got(joined("1")).are(1, 1, 0, 0);
        s.got(joined("1 2 3 4 5 6 7 8 9 10 11 12")).are(12, 12, 0, 0);
        s.got(joined("1", 2)).are(1, 0, 0, 1);
        s.got(joined("1", 2, 1)).are(1, 0, 1, 0);
        s.got(joined("1 2", 2)).are(1, 1, 0, 0);
        s.got(joined("1 2 3 4", 2, 3, 4, 5)).are(2, 1, 1, 0);
        s.got(joined("1 2 3", 4, 5, 6)).are(3, 0, 0, 3);
        s.got(joined("0 0 999", 0, 999)).are(1, 1, 0, 0);
        s.got(joined("1 2", MIN, MAX)).are(2, 0, 0, 2);
        // as long as both can be: 36 words, 40 numbers
        WritHouse x = house("kind charter;say 1 2 3 4 5 6 7 8 9 10 11 12;");
        for (int l = 0; l < 3; l++) x.letter(0, 0, 0);
        x.inspect(1, 0);
        x.inspect(2, 1);
        x.sheet(0, 2, 40);
        for (int i = 0; i < 40; i++) x.put(0, i, i < 4 ? 500 : (i - 4) % 12 + 1);
        s.got(joined(x, 2, 0)).are(4, 0, 4, 0);
        for (int i = 0; i < 40; i++) x.put(0, i, 500);
        s.got(joined(x, 2, 0)).are(40, 0, 4, 36);
        x.sheet(0, 2, 0);
        s.got(joined(x, 2, 0)).are(36, 36, 0, 0);

        s.terms(11, "of several that which at the first step (from the front) at which two are unlike goes on with both, rather than"
            + " dropping a word, rather than adding a number.");
        // both rather than dropping 1 and adding behind, and rather than adding 3 and dropping behind
        s.got(joined("1 2", 2, 3)).are(2, 0, 0, 2);
        s.got(joined("1 2", 3, 1)).are(2, 0, 0, 2);
        s.got(joined("1 2", 2, 1)).are(2, 0, 0, 2);
        // dropping 1 and adding two rather than adding 2 and two unlike ones
        s.got(joined("1 2 1", 2, 1, 3, 2)).are(3, 1, 2, 0);
        s.got(joined("1 3 1", 3, 1, 2, 2)).are(3, 1, 2, 0);
        // but fewer go before all that
        s.got(joined("1 2 3", 2, 3, 1)).are(2, 1, 1, 0);
    }

    private void termsOfReturns() {
        s.terms(11, "A WRIT (kind 5) that is DONE RETURNS by the last DAY of the TERM of (its DAY of being DONE and due).");
        int[] done = {0, 0, 0, 89, 89, 90, 3509, 3510, 3599}, due = {0, 89, 90, 0, 1, 0, 0, 0, 999};
        int[] by = {89, 89, 179, 89, 179, 179, 3509, 3599, 3599};
        for (int i = 0; i < done.length; i++) {
            WritHouse x = Due.goTo(house("kind writ;say 1;due " + due[i] + ";"), done[i]);
            x.letter(0, 0, 0);
            s.is(x.returns(0), by[i]);
        }
        WritHouse sealed = withLetter("kind writ;say 1;seals 0 1;due 10;");
        s.is(sealed.returns(0), -4);
        Due.goTo(sealed, 100);
        sealed.seal(0, 79);
        s.is(sealed.returns(0), -4);
        sealed.seal(0, 80);
        s.is(sealed.returns(0), 179);

        s.terms(11, "It comes back on a DAY: in time, LATE (behind that); on a DAY it is NEVER, if it did not by then and the DAY is behind"
            + " it.");
        WritHouse y = Due.goTo(withLetter("kind writ;say 1;"), 100);
        s.got(y.returned(0, 0), y.returned(0, 89), y.returned(0, 90), y.returned(0, 3599)).are(0, 0, 3, 3);
        s.is(y.back(0, 89), 1);
        s.got(y.returned(0, 88), y.returned(0, 89), y.returned(0, 90), y.returned(0, 3599)).are(0, 1, 1, 1);
        WritHouse late = Due.goTo(withLetter("kind writ;say 1;"), 100);
        s.is(late.back(0, 90), 2);
        s.got(late.returned(0, 89), late.returned(0, 90), late.returned(0, 3599)).are(0, 2, 2);
        WritHouse later = Due.goTo(withLetter("kind writ;say 1;"), 100);
        s.is(later.back(0, 100), 2);
        s.got(later.returned(0, 89), later.returned(0, 90), later.returned(0, 99), later.returned(0, 100)).are(0, 3, 3, 2);

        s.terms(11, "What DIES with it: all that HANGS on its PETITION's LETTERS.");
        WritHouse z = house("kind writ;say 1;", "kind charter;say 2;");
        z.letter(0, 1, 0);
        z.letter(0, 0, 0);
        z.letter(0, 1, 1);
        z.letter(0, 1, 0);
        z.letter(0, 1, 1);
        z.letter(0, 0, 1);
        s.got(z.dies(1), z.dies(5)).are(0, 0);
        // one of petition 1 with letter 0 of petition 0 set in, then one of petition 0 with that set in
        z.inspect(2, 0);
        s.got(z.dies(1), z.dies(5)).are(1, 0);
        z.inspect(3, 2);
        s.got(z.dies(1), z.dies(5)).are(2, 1);
        // each once, though letter 4 hangs on 3 and on 0
        z.inspect(4, 3);
        s.got(z.dies(1), z.dies(5)).are(3, 2);
    }

    private static WritHouse withTasks(int... lengthsAndDues) {
        WritHouse x = new WritHouse();
        for (int t = 0; t < lengthsAndDues.length; t += 2) x.task(lengthsAndDues[t], lengthsAndDues[t + 1]);
        return x;
    }

    /** How many are late, by how many days together, and the clerk of each task. */
    private static long[] planned(WritHouse x, int clerks) {
        long[] answers = new long[2 + x.many(10)];
        for (int i = 0; i < answers.length; i++) answers[i] = x.plan(clerks, i < 2 ? i : i + 8);
        return answers;
    }

    private void termsOfTheWeek() {
        s.terms(12, "A WEEK: TASKS, 7 at most, each with a LENGTH (1 to 5 days) and a DUE day (0 to 30);");
        WritHouse x = new WritHouse();
        s.got(x.task(0, 0), x.task(6, 0), x.task(1, -1), x.task(1, 31)).are(-1, -1, -1, -1);
        for (int t = 1; t <= 7; t++) s.is(x.task(t % 2 == 0 ? 5 : 1, t % 2 == 0 ? 30 : 0), t);
        s.is(x.task(1, 0), -2);

        s.terms(12, "CLERKS, 1 to 3.");
        s.got(x.plan(0, 0), x.plan(4, 0)).are(-1, -1);
        s.got(planned(withTasks(1, 1, 1, 1, 1, 1, 1, 1), 1)).are(3, 6, 0, 0, 0, 0);
        s.got(planned(withTasks(1, 1, 1, 1, 1, 1, 1, 1), 2)).are(2, 2, 0, 0, 1, 1);
        s.got(planned(withTasks(1, 1, 1, 1, 1, 1, 1, 1), 3)).are(1, 1, 0, 0, 1, 2);

        s.terms(12, "A PLAN gives each a CLERK; a CLERK does theirs by numbers, one behind the other from day 0 on;");
        // the long one first, though the short one is due sooner
        s.got(planned(withTasks(5, 30, 1, 1), 1)).are(1, 5, 0, 0);
        s.got(planned(withTasks(1, 1, 5, 30), 1)).are(0, 0, 0, 0);
        s.got(planned(withTasks(5, 5, 5, 10, 5, 15, 5, 20, 5, 25, 5, 30, 5, 30), 1)).are(1, 5, 0, 0, 0, 0, 0, 0, 0);
        s.got(planned(withTasks(5, 5, 5, 9, 5, 14), 1)).are(2, 2, 0, 0, 0);

        s.terms(12, "a TASK is LATE if it ends behind its DUE day (one that ends with LENGTHS together l ends on day l).");
        s.got(planned(withTasks(1, 1), 1)).are(0, 0, 0);
        s.got(planned(withTasks(1, 0), 1)).are(1, 1, 0);
        s.got(planned(withTasks(5, 5), 3)).are(0, 0, 0);
        s.got(planned(withTasks(5, 4), 3)).are(1, 1, 0);
        s.got(planned(withTasks(5, 5, 5, 10), 1)).are(0, 0, 0, 0);
        s.got(planned(withTasks(5, 5, 5, 9), 1)).are(1, 1, 0, 0);
        s.got(planned(withTasks(5, 0, 5, 0, 5, 0, 5, 0, 5, 0, 5, 0, 5, 0), 1)).are(7, 140, 0, 0, 0, 0, 0, 0, 0);
    }

    private void termsOfThePlan() {
        s.terms(12, "THE PLAN has the fewest LATE, of several the least sum of days by which these are late, of several the first TASK for"
            + " which they are unlike with the lesser CLERK.");
        // one late by 3 rather than two late by 1
        s.got(planned(withTasks(3, 3, 3, 3, 1, 3, 1, 3), 2)).are(1, 3, 0, 0, 1, 1);
        // two late by 1 and 1 rather than by 1 and 2, though that has the lesser clerk for task 1
        s.got(planned(withTasks(2, 1, 3, 3, 2, 3), 2)).are(2, 2, 0, 1, 0);
        // all alike: each with the least clerk that may be
        s.got(planned(withTasks(1, 30, 1, 30, 1, 30), 3)).are(0, 0, 0, 0, 0);
        s.got(planned(withTasks(1, 30, 5, 6, 5, 6), 2)).are(0, 0, 0, 0, 1);
        s.got(planned(withTasks(5, 5, 5, 5, 5, 5), 3)).are(0, 0, 0, 1, 2);
        s.got(planned(withTasks(1, 1, 1, 1, 1, 1, 1, 1, 1, 1, 1, 1, 1, 1), 3)).are(4, 5, 0, 0, 0, 1, 1, 2, 2);
        s.got(planned(withTasks(), 3)).are(0, 0);

        s.terms(12, "BOUND: the fewest LATE that any could have if each TASK had a CLERK of its own.");
        s.got(withTasks().plan(1, 2), withTasks(5, 5, 1, 1).plan(1, 2), withTasks(5, 4, 1, 0, 2, 2).plan(3, 2)).are(0, 0, 2);
        s.is(withTasks(5, 0, 5, 0, 5, 0, 5, 0, 5, 0, 5, 0, 5, 0).plan(1, 2), 7);
    }

    private void join() {
        s.promise(45, "JOIN: what = 0 how many, 1 words dropped, 2 numbers added, 3 unlike ones.");
        s.got(joined("1 2 3 4", 9, 2, 3)).are(2, 1, 0, 1);
        s.got(joined("1 2", 1, 9, 9)).are(2, 0, 1, 1);

        s.promise(45, "BAD: there is no such LETTER, SHEET, another what;");
        WritHouse x = withLetter("say 1;");
        x.sheet(0, 2, 1);
        s.all(-1, x.join(-1, 0, 0), x.join(1, 0, 0), x.join(MIN, 0, 0), x.join(MAX, 0, 0));
        s.all(-1, x.join(0, -1, 0), x.join(0, 4, 0), x.join(0, MIN, 0), x.join(0, MAX, 0));
        s.all(-1, x.join(0, 0, -1), x.join(0, 0, 4), x.join(0, 0, MIN), x.join(0, 0, MAX));
        // ahead of a sheet that is missing, or of another sort
        x.sheet(1, 0, 1);
        s.all(-1, x.join(1, 1, 0), x.join(0, 1, 4), x.join(1, 3, 0), x.join(0, 3, 4));

        s.promise(45, "-13;");
        for (int sort = 0; sort < 5; sort++) {
            x.sheet(1, sort, sort);
            s.is(x.join(0, 1, 0), sort == 2 ? 2 : -13);
        }

        s.promise(45, "-11.");
        s.all(-11, x.join(0, 3, 0), x.join(0, 2, 3));
        x.sheet(1, -1, 0);
        s.is(x.join(0, 1, 0), -11);

        s.promise(45, "(A PLACE not filled is -1.)");
        s.got(joined("land", -1)).are(0, 0, 0, 0);
        s.got(joined("1 person amount", 1, -1, 0)).are(1, 0, 0, 1);
    }

    private void back() {
        s.promise(46, "A WRIT comes back on a DAY: 1 in time, 2 LATE.");
        WritHouse x = house("kind writ;say 1;", "kind close;say 1;", "kind writ;say 1;seals 0;");
        for (int l = 0; l < 4; l++) x.letter(0, l < 2 ? 0 : l - 1, 0);
        s.is(x.back(0, 0), 1);
        Due.goTo(x, 100);
        s.is(x.back(1, 90), 2);
        x.letter(0, 0, 0);
        s.is(x.back(4, 100), 1);

        s.promise(46, "BAD: there is no such LETTER, DAY (0 to TODAY);");
        x.letter(0, 0, 0);
        s.all(-1, x.back(-1, 100), x.back(6, 100), x.back(MIN, 100), x.back(MAX, 100));
        s.all(-1, x.back(5, -1), x.back(5, 101), x.back(5, 3599), x.back(5, MIN), x.back(5, MAX));
        s.all(-1, x.back(2, 101), x.back(0, 101));

        s.promise(46, "STATE: it is of another kind, not DONE, came back already, or the DAY is ahead of that on which it was DONE.");
        s.all(-4, x.back(2, 100), x.back(3, 100));
        // one that came back on day 0, too
        s.all(-4, x.back(0, 0), x.back(0, 100), x.back(1, 90));
        s.all(-4, x.back(5, 99), x.back(5, 0));
        x.seal(3, 50);
        s.got(x.back(3, 49), x.back(3, 50), x.back(3, 50)).are(-4, 1, -4);
        s.got(x.back(5, 100), x.returned(0, 0)).are(1, 1);
    }

    private void returned() {
        s.promise(47, "Of a WRIT on a DAY: 0 it is out, 1 it came back in time (by then), 2 LATE, 3 NEVER.");
        WritHouse x = house("kind writ;say 1;", "kind close;say 1;", "kind writ;say 1;seals 0;");
        for (int l = 0; l < 5; l++) x.letter(0, l < 3 ? 0 : l - 2, 0);
        x.back(0, 0);
        Due.goTo(x, 100);
        x.back(1, 95);
        s.got(x.returned(0, 0), x.returned(0, 3599)).are(1, 1);
        s.got(x.returned(1, 0), x.returned(1, 89), x.returned(1, 90), x.returned(1, 94), x.returned(1, 95), x.returned(1, 3599))
            .are(0, 0, 3, 3, 2, 2);
        s.got(x.returned(2, 0), x.returned(2, 89), x.returned(2, 90), x.returned(2, 3599)).are(0, 0, 3, 3);

        s.promise(47, "BAD: there is no such LETTER, DAY;");
        s.all(-1, x.returned(-1, 0), x.returned(5, 0), x.returned(MIN, 0), x.returned(MAX, 0));
        s.all(-1, x.returned(0, -1), x.returned(0, 3600), x.returned(0, MIN), x.returned(0, MAX), x.returned(3, 3600));

        s.promise(47, "STATE: it is of another kind, or not DONE.");
        s.all(-4, x.returned(3, 0), x.returned(4, 0), x.returned(4, 3599));
        x.seal(4, 100);
        s.is(x.returned(4, 100), 0);
    }

    private void returns() {
        s.promise(48, "The DAY by which a WRIT RETURNS (3599 at most).");
        WritHouse x = Due.goTo(house("kind writ;say 1;due 999;", "kind close;say 1;", "kind writ;say 1;seals 0;"), 2600);
        for (int v = 0; v < 3; v++) x.letter(0, v, 0);
        s.is(x.returns(0), 3599);
        Due.goTo(x, 3599);
        x.letter(0, 0, 0);
        s.got(x.returns(3), x.returned(3, 3599)).are(3599, 0);
        s.is(withLetter("kind writ;say 1;").returns(0), 89);

        s.promise(48, "BAD;");
        s.all(-1, x.returns(-1), x.returns(4), x.returns(MIN), x.returns(MAX), new WritHouse().returns(0));

        s.promise(48, "STATE likewise.");
        s.all(-4, x.returns(1), x.returns(2));
        x.seal(2, 3599);
        s.is(x.returns(2), 3599);
    }

    private void dies() {
        s.promise(49, "How many LETTERS DIE with a WRIT.");
        WritHouse x = house("kind writ;say 1;seals 0;", "kind charter;say 1;");
        for (int l = 0; l < 24; l++) x.letter(0, l == 0 ? 0 : 1, 0);
        s.is(x.dies(0), 0);
        for (int l = 1; l < 24; l++) x.inspect(l, 0);
        s.is(x.dies(0), 23);

        s.promise(49, "BAD: there is no such LETTER;");
        s.all(-1, x.dies(-1), x.dies(24), x.dies(MIN), x.dies(MAX), new WritHouse().dies(0));

        s.promise(49, "STATE: it is of another kind.");
        s.all(-4, x.dies(1), x.dies(23), withLetter("kind close;say 1;").dies(0), withLetter("say 1;").dies(0),
            withLetter("kind charter;say 1;").dies(0));
    }

    private void task() {
        s.promise(50, "A TASK: how many there are.");
        WritHouse x = new WritHouse();
        s.got(x.task(1, 0), x.task(5, 30), x.task(1, 0)).are(1, 2, 3);

        s.promise(50, "BAD: length isn't 1 to 5, or due not 0 to 30;");
        s.all(-1, x.task(0, 5), x.task(6, 5), x.task(-1, 5), x.task(MIN, 5), x.task(MAX, 5));
        s.all(-1, x.task(1, -1), x.task(1, 31), x.task(1, MIN), x.task(1, MAX));
        s.is(x.many(10), 3);

        s.promise(50, "FULL.");
        for (int t = 3; t < 6; t++) x.task(1, 1);
        s.got(x.task(1, 1), x.task(1, 1), x.task(5, 30), x.task(6, 1), x.task(1, 31), x.many(10)).are(7, -2, -2, -1, -1, 7);
    }

    private void clear() {
        s.promise(51, "All TASKS go: how many there were.");
        WritHouse x = withTasks(1, 0, 1, 0, 1, 0, 1, 0, 1, 0, 1, 0, 1, 0);
        s.got(x.clear(), x.clear(), x.many(10), x.plan(1, 0), x.plan(1, 10)).are(7, 0, 0, 0, -1);
        s.got(x.task(2, 1), x.plan(1, 0), x.plan(1, 1), x.clear(), new WritHouse().clear()).are(1, 1, 1, 1, 0);
    }

    private void plan() {
        s.promise(52, "THE PLAN for so many CLERKS: what = 0 how many are LATE, 1 the sum of days, 2 BOUND, 10 + t the CLERK of TASK t.");
        WritHouse x = withTasks(1, 0, 5, 5, 5, 5);
        s.got(x.plan(1, 0), x.plan(1, 1), x.plan(1, 2), x.plan(1, 10), x.plan(1, 11), x.plan(1, 12)).are(3, 8, 1, 0, 0, 0);
        s.got(x.plan(2, 0), x.plan(2, 1), x.plan(2, 2), x.plan(2, 10), x.plan(2, 11), x.plan(2, 12)).are(2, 2, 1, 0, 0, 1);
        s.got(x.plan(3, 0), x.plan(3, 1), x.plan(3, 2), x.plan(3, 10), x.plan(3, 11), x.plan(3, 12)).are(1, 1, 1, 0, 1, 2);

        s.promise(52, "BAD: clerks aren't 1 to 3, another what, no such TASK.");
        s.all(-1, x.plan(0, 0), x.plan(4, 0), x.plan(-1, 0), x.plan(MIN, 0), x.plan(MAX, 0), x.plan(0, 2), x.plan(4, 10));
        s.all(-1, x.plan(1, -1), x.plan(1, 3), x.plan(1, 9), x.plan(1, MIN), x.plan(1, MAX));
        s.all(-1, x.plan(1, 13), x.plan(3, 13), new WritHouse().plan(1, 10));
        WritHouse full = withTasks(1, 0, 1, 0, 1, 0, 1, 0, 1, 0, 1, 0, 1, 0);
        s.got(full.plan(1, 16), full.plan(1, 17)).are(0, -1);
    }
}
