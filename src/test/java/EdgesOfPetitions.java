/** Section 4 of the Terms and promises 18 to 25, sentence by sentence. */
final class EdgesOfPetitions {
    private static final int MIN = Integer.MIN_VALUE, MAX = Integer.MAX_VALUE;

    private final Sentences s;

    EdgesOfPetitions(Sentences s) {
        this.s = s;
    }

    void run() {
        termsOfFitting();
        termsOfNarrowest();
        termsOfLack();
        termsOfRows();
        termsOfTheReader();
        petition();
        fits();
        fit();
        lack();
        prove();
        row();
        alterRow();
        judge();
    }

    /** A house with a person, and a form for each condition. */
    private static WritHouse withForms(String... conds) {
        WritHouse x = new WritHouse();
        x.person(0);
        for (int form = 0; form < conds.length; form++) Due.read(x, form, "say 1;wants " + conds[form] + ";");
        return x;
    }

    private static WritHouse withPetitions(WritHouse x, int... facts) {
        for (int f : facts) x.petition(0, f);
        return x;
    }

    private void termsOfFitting() {
        s.terms(4, "PETITIONS, 12 at most, numbered as they come, are sets of FACTS (bits), of a PERSON.");
        WritHouse x = withForms("fact 0", "fact 11", "not fact 0 and not fact 11");
        for (int i = 0; i < 12; i++) s.is(x.petition(0, i == 0 ? 0 : i == 1 ? 1 : i == 2 ? 2048 : 4095), i);
        s.is(x.petition(0, 0), -2);
        s.got(x.fits(0, 0), x.fits(0, 1), x.fits(0, 2), x.fits(0, 3)).are(0, 1, 0, 1);
        s.got(x.fits(1, 0), x.fits(1, 1), x.fits(1, 2), x.fits(1, 3)).are(0, 0, 1, 1);
        s.got(x.fits(2, 0), x.fits(2, 1), x.fits(2, 2), x.fits(2, 3)).are(1, 0, 0, 0);

        s.terms(4, "A VERSION FITS one if its FACTS meet the COND.");
        WritHouse y = withPetitions(withForms("most 2(5 5 6) unless fact 7", "fact 5 and fact 5", "most 0(5)"), 0, 32, 64, 96, 32 + 128);
        s.got(y.fits(0, 0), y.fits(0, 1), y.fits(0, 2), y.fits(0, 3), y.fits(0, 4)).are(0, 1, 0, 1, 0);
        s.got(y.fits(1, 0), y.fits(1, 1), y.fits(1, 2), y.fits(1, 3), y.fits(1, 4)).are(0, 1, 0, 1, 1);
        s.got(y.fits(2, 0), y.fits(2, 4)).are(1, 1);

        s.terms(4, "WIDTH of a VERSION: how many of the 4096 sets meet it.");
        WritHouse z = withForms("fact 0 or not fact 0", "fact 0 and not fact 0", "most 12(0 1 2 3 4 5 6 7 8 9 10 11)", "fact 11",
            "most 1(0 1 2 3 4 5 6 7 8 9 10 11)");
        s.got(z.version(0, 9), z.version(1, 9), z.version(2, 9), z.version(3, 9), z.version(4, 9)).are(4096, 0, 1, 2048, 4095);
    }

    private void termsOfNarrowest() {
        s.terms(4, "On a DAY THE NARROWEST of the VERSIONS in force that FIT is that with the least WIDTH, of several the least.");
        WritHouse x = withPetitions(withForms("most 0(0)", "fact 0", "fact 1", "fact 0 and fact 1", "fact 1 and fact 0"), 0, 1, 2, 3);
        s.got(x.fit(0, 0), x.fit(1, 0), x.fit(2, 0), x.fit(3, 0)).are(0, 1, 2, 3);
        x.days(1);
        x.strike(3);
        s.got(x.fit(3, 0), x.fit(3, 1)).are(3, 4);
        x.strike(4);
        // widths 2048 and 2048: the least number
        s.got(x.fit(3, 1), x.fit(3, 3599)).are(1, 1);
        x.strike(0);
        s.got(x.fit(0, 0), x.fit(0, 1)).are(0, -3);
        // the first of all, the last of all, one between
        s.is(withPetitions(withForms("fact 0 and fact 1", "fact 0", "most 0(0)"), 3).fit(0, 0), 0);
        s.is(withPetitions(withForms("most 0(0)", "fact 0", "fact 0 and fact 1"), 3).fit(0, 0), 2);
        s.is(withPetitions(withForms("fact 0", "fact 0 and fact 1", "fact 1"), 3).fit(0, 0), 1);
    }

    private void termsOfLack() {
        s.terms(4, "LACK: the fewest FACTS more with which some VERSION in force would FIT; of several the least number of bits"
            + " (0 if one FITS; none if all 12 do not do).");
        // the fewest: fact 11 alone rather than 0 and 1
        s.is(withPetitions(withForms("fact 0 and fact 1", "fact 11"), 0).lack(0, 0), 2048);
        // of several with as many the least number, whatever version it is for
        s.is(withPetitions(withForms("fact 10 and fact 11", "fact 0 and fact 9"), 0).lack(0, 0), 513);
        s.is(withPetitions(withForms("most 2(3 4 5)"), 0).lack(0, 0), 24);
        // those that are had need not come
        s.is(withPetitions(withForms("fact 10 and fact 11", "fact 0 and fact 9"), 1024).lack(0, 0), 2048);
        s.is(withPetitions(withForms("most 12(0 1 2 3 4 5 6 7 8 9 10 11)"), 0).lack(0, 0), 4095);
        s.is(withPetitions(withForms("most 12(0 1 2 3 4 5 6 7 8 9 10 11)"), 2048).lack(0, 0), 2047);
        // one fits
        s.is(withPetitions(withForms("fact 0", "not fact 0"), 0).lack(0, 0), 0);
        s.is(withPetitions(withForms("most 12(0 1 2 3 4 5 6 7 8 9 10 11)"), 4095).lack(0, 0), 0);
        // no facts more will do
        s.is(withPetitions(withForms("not fact 0"), 1).lack(0, 0), -3);
        s.is(withPetitions(withForms("fact 0 and not fact 0", "most 2(1)"), 0).lack(0, 0), -3);
        // of versions in force
        WritHouse x = withPetitions(withForms("fact 0", "fact 1"), 0);
        x.days(1);
        x.strike(0);
        s.got(x.lack(0, 0), x.lack(0, 1)).are(1, 2);
        x.strike(1);
        s.got(x.lack(0, 0), x.lack(0, 1), x.lack(0, 3599)).are(1, -3, -3);
    }

    private void termsOfRows() {
        s.terms(4, "ROWS of a PETITION on a DAY: for each VERSION in force that does not FIT (rising): its number, and BAR: the least"
            + " FACT that changed alone (had for not had, or the other way) would make it FIT (-1: none).");
        WritHouse x = withPetitions(withForms("fact 0", "most 0(0)", "not fact 11", "fact 1 and fact 2", "most 1(11 5 3)", "not fact 5 or fact 5",
            "most 1(7 0) and not fact 7"), 2048, 0);
        s.is(x.prove(0, 0), 4);
        s.got(x.row(0, 0), x.row(1, 0), x.row(2, 0), x.row(3, 0)).are(0, 2, 3, 6);
        s.got(x.row(0, 1), x.row(1, 1), x.row(2, 1), x.row(3, 1)).are(0, 11, -1, 0);
        s.is(x.prove(1, 0), 4);
        s.got(x.row(0, 0), x.row(1, 0), x.row(2, 0), x.row(3, 0)).are(0, 3, 4, 6);
        s.got(x.row(0, 1), x.row(1, 1), x.row(2, 1), x.row(3, 1)).are(0, -1, 3, 0);
        x.days(1);
        x.strike(0);
        x.strike(4);
        s.is(x.prove(1, 1), 2);
        s.got(x.row(0, 0), x.row(1, 0)).are(3, 6);
        s.is(x.prove(1, 0), 4);
        // as many as there may be: of eight forms, each read twice
        WritHouse full = withPetitions(withForms("fact 0", "fact 0", "fact 0", "fact 0", "fact 0", "fact 0", "fact 0", "fact 0"), 0);
        s.is(full.prove(0, 0), 8);
        s.got(full.row(7, 0), full.row(7, 1), full.row(8, 0)).are(7, 0, -9);
        full.days(1);
        for (int form = 0; form < 8; form++) Due.read(full, form, "say 1;wants fact 11 and fact 10;");
        s.got(full.many(5), full.prove(0, 1), full.row(0, 0), full.row(7, 0), full.row(7, 1), full.row(8, 0)).are(16, 8, 8, 15, -1, -9);
        s.got(full.judge(0, 1), full.judge(0, 0), full.fit(0, 1), full.lack(0, 1), full.lack(0, 0)).are(0, 1, -3, 3072, 1);
    }

    private void termsOfTheReader() {
        s.terms(4, "THE READER tells the first row that is not so; how many there are, if they are right, but too few; -1: all are right.");
        // of petition 0 versions 0, 1, 2 do not fit, by 0, 1, 2; of petition 1 version 0; of petition 2 none
        WritHouse x = withPetitions(withForms("fact 0", "fact 1", "fact 2"), 0, 6, 7);
        // no rows: too few of three, too few of one, all of none
        s.got(x.judge(0, 0), x.judge(1, 0), x.judge(2, 0)).are(1, 1, 0);
        s.is(x.prove(0, 0), 3);
        // row 1 is not so of petition 1, row 0 is not so of petition 2
        s.got(x.judge(0, 0), x.judge(1, 0), x.judge(2, 0)).are(0, 2, 1);
        x.alterRow(2, 0, 1);
        s.is(x.judge(0, 0), 3);
        x.alterRow(0, 1, 1);
        s.is(x.judge(0, 0), 1);
        x.alterRow(0, 1, 0);
        x.alterRow(2, 0, 2);
        x.alterRow(2, 1, -1);
        s.is(x.judge(0, 0), 3);
        // one row now, right of petition 0 too, and those that there were before are rows no more
        s.is(x.prove(0, 0), 3);
        s.is(x.prove(1, 0), 1);
        s.got(x.judge(0, 0), x.judge(1, 0), x.judge(2, 0)).are(2, 0, 1);
        s.is(x.prove(2, 0), 0);
        s.got(x.judge(0, 0), x.judge(1, 0), x.judge(2, 0)).are(1, 1, 0);
    }

    private void petition() {
        s.promise(18, "A PETITION: its number.");
        WritHouse x = withForms();
        s.got(x.petition(0, 0), x.petition(0, 4095), x.petition(0, 0)).are(0, 1, 2);

        s.promise(18, "BAD: there is no such PERSON, or facts aren't 0 to 4095;");
        s.all(-1, x.petition(-1, 0), x.petition(1, 0), x.petition(MIN, 0), x.petition(MAX, 0), new WritHouse().petition(0, 0));
        s.all(-1, x.petition(0, -1), x.petition(0, 4096), x.petition(0, MIN), x.petition(0, MAX));
        s.is(x.many(6), 3);

        s.promise(18, "FULL.");
        WritHouse full = withForms();
        for (int i = 0; i < 11; i++) full.petition(0, i);
        s.is(full.petition(0, 11), 11);
        s.is(full.petition(0, 12), -2);
        s.all(-1, full.petition(1, 0), full.petition(0, 4096));
        s.is(full.many(6), 12);
    }

    private void fits() {
        s.promise(19, "Whether a VERSION FITS: 1, 0.");
        WritHouse x = withPetitions(withForms("fact 0", "not fact 0"), 0, 1);
        s.got(x.fits(0, 0), x.fits(0, 1), x.fits(1, 0), x.fits(1, 1)).are(0, 1, 1, 0);
        x.strike(0);
        s.is(x.fits(0, 1), 1);

        s.promise(19, "BAD: there is no such VERSION, PETITION.");
        s.all(-1, x.fits(-1, 0), x.fits(2, 0), x.fits(MIN, 0), x.fits(MAX, 0));
        s.all(-1, x.fits(0, -1), x.fits(0, 2), x.fits(0, MIN), x.fits(0, MAX));
    }

    private void fit() {
        s.promise(20, "THE NARROWEST on a DAY.");
        WritHouse x = withPetitions(withForms("most 0(0)", "fact 0"), 0, 1);
        s.got(x.fit(0, 0), x.fit(1, 0), x.fit(0, 3599), x.fit(1, 3599)).are(0, 1, 0, 1);

        s.promise(20, "BAD: there is no such PETITION, DAY;");
        s.all(-1, x.fit(-1, 0), x.fit(2, 0), x.fit(MIN, 0), x.fit(MAX, 0));
        s.all(-1, x.fit(0, -1), x.fit(0, 3600), x.fit(0, MIN), x.fit(0, MAX));

        s.promise(20, "NONE.");
        WritHouse y = withPetitions(withForms(), 0);
        s.got(y.fit(0, 0), y.fit(0, 3599), y.fit(0, 3600)).are(-3, -3, -1);
        y.days(1);
        Due.read(y, 0, "say 1;wants fact 1;");
        Due.read(y, 1, "say 1;");
        s.got(y.fit(0, 0), y.fit(0, 1)).are(-3, 1);
        y.strike(1);
        s.is(y.fit(0, 1), -3);
    }

    private void lack() {
        s.promise(21, "LACK on a DAY, as bits.");
        WritHouse x = withPetitions(withForms("fact 0 and fact 11"), 0, 1, 2049);
        s.got(x.lack(0, 0), x.lack(1, 0), x.lack(2, 0), x.lack(2, 3599)).are(2049, 2048, 0, 0);

        s.promise(21, "BAD likewise;");
        s.all(-1, x.lack(-1, 0), x.lack(3, 0), x.lack(MIN, 0), x.lack(MAX, 0));
        s.all(-1, x.lack(0, -1), x.lack(0, 3600), x.lack(0, MIN), x.lack(0, MAX));

        s.promise(21, "NONE.");
        WritHouse y = withPetitions(withForms(), 0, 4095);
        s.got(y.lack(0, 0), y.lack(1, 0)).are(-3, -3);
        y.days(1);
        Due.read(y, 0, "say 1;wants not fact 3;");
        s.got(y.lack(0, 0), y.lack(0, 1), y.lack(1, 1)).are(-3, 0, -3);
    }

    private void prove() {
        s.promise(22, "ROWS become those of a PETITION on a DAY: how many.");
        WritHouse x = withPetitions(withForms("fact 0", "fact 1"), 0, 2, 3);
        s.got(x.prove(0, 0), x.many(8), x.prove(1, 0), x.many(8), x.prove(2, 0), x.many(8)).are(2, 2, 1, 1, 0, 0);
        s.got(x.prove(0, 3599), x.row(0, 0), x.row(1, 0)).are(2, 0, 1);

        s.promise(22, "BAD likewise.");
        s.all(-1, x.prove(-1, 0), x.prove(3, 0), x.prove(MIN, 0), x.prove(MAX, 0));
        s.all(-1, x.prove(0, -1), x.prove(0, 3600), x.prove(0, MIN), x.prove(0, MAX));
        s.is(x.many(8), 2);
    }

    private void row() {
        s.promise(23, "Of ROW i: what = 0 the VERSION, 1 BAR.");
        WritHouse x = withPetitions(withForms("most 0(0)", "fact 9", "fact 1 and fact 2"), 0);
        x.prove(0, 0);
        s.got(x.row(0, 0), x.row(0, 1), x.row(1, 0), x.row(1, 1)).are(1, 9, 2, -1);

        s.promise(23, "-9: there is none such, another what.");
        s.all(-9, x.row(-1, 0), x.row(2, 0), x.row(MIN, 0), x.row(MAX, 1));
        s.all(-9, x.row(0, -1), x.row(0, 2), x.row(0, MIN), x.row(0, MAX), withForms().row(0, 0));
    }

    private void alterRow() {
        s.promise(24, "It becomes v: what it was.");
        WritHouse x = withPetitions(withForms("fact 9", "fact 1 and fact 2"), 0);
        x.prove(0, 0);
        s.got(x.alterRow(0, 0, 7), x.alterRow(0, 1, MIN), x.alterRow(1, 0, MAX), x.alterRow(1, 1, 0)).are(0, 9, 1, -1);
        s.got(x.alterRow(0, 0, 0), x.alterRow(0, 1, 0), x.row(1, 0), x.row(1, 1)).are(7, MIN, MAX, 0);

        s.promise(24, "-9 likewise.");
        s.all(-9, x.alterRow(-1, 0, 5), x.alterRow(2, 0, 5), x.alterRow(MIN, 0, 5), x.alterRow(MAX, 0, 5));
        s.all(-9, x.alterRow(0, -1, 5), x.alterRow(0, 2, 5), x.alterRow(0, MIN, 5), x.alterRow(0, MAX, 5));
        s.got(x.row(0, 0), x.row(0, 1), x.many(8)).are(0, 0, 2);
        s.is(withForms().alterRow(0, 0, 5), -9);
    }

    private void judge() {
        s.promise(25, "THE READER on ROWS as those of a PETITION on a DAY: the answer and 1 more (0: all are right).");
        WritHouse x = withPetitions(withForms("fact 0", "fact 1"), 0);
        s.is(x.judge(0, 0), 1);
        x.prove(0, 0);
        s.got(x.judge(0, 0), x.judge(0, 3599)).are(0, 0);
        x.days(1);
        x.strike(1);
        s.got(x.judge(0, 0), x.judge(0, 1)).are(0, 2);
        x.strike(0);
        s.is(x.judge(0, 1), 1);
        s.is(x.prove(0, 1), 0);
        s.got(x.judge(0, 0), x.judge(0, 1)).are(1, 0);

        s.promise(25, "BAD: there is no such PETITION, DAY.");
        s.all(-1, x.judge(-1, 0), x.judge(1, 0), x.judge(MIN, 0), x.judge(MAX, 0));
        s.all(-1, x.judge(0, -1), x.judge(0, 3600), x.judge(0, MIN), x.judge(0, MAX));
    }
}
