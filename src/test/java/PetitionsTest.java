/** Promises 18 to 25: petitions, what fits them, the reader of rows. */
public final class PetitionsTest {
    private static final Due DUE = new Due();

    public static void main(String[] args) {
        petitions();
        fits();
        narrowest();
        lack();
        rows();
        judge();
        DUE.end("PetitionsTest");
    }

    private static WritHouse withForms(String... conds) {
        WritHouse x = new WritHouse();
        x.person(0);
        for (int form = 0; form < conds.length; form++) {
            DUE.is(Due.read(x, form, "say 1;wants " + conds[form] + ";"), form);
        }
        return x;
    }

    private static void petitions() {
        WritHouse x = new WritHouse();
        DUE.is(x.petition(0, 0), -1);
        x.person(0);
        DUE.is(x.petition(-1, 0), -1);
        DUE.is(x.petition(1, 0), -1);
        DUE.is(x.petition(0, -1), -1);
        DUE.is(x.petition(0, 4096), -1);
        DUE.is(x.many(6), 0);
        for (int i = 0; i < 12; i++) DUE.is(x.petition(0, 4095), i);
        DUE.is(x.petition(0, 0), -2);
        DUE.is(x.petition(0, 4096), -1);
        DUE.is(x.many(6), 12);
    }

    private static void fits() {
        WritHouse x = withForms("fact 0 and not fact 11", "most 2(1 2 2)");
        x.petition(0, 1);
        x.petition(0, 1 + 2048);
        x.petition(0, 4);
        x.petition(0, 2);
        int[][] due = {{1, 0, 0, 0}, {0, 0, 1, 0}};
        for (int v = 0; v < 2; v++) {
            for (int p = 0; p < 4; p++) DUE.is(x.fits(v, p), due[v][p]);
        }
        // a version that is in force no more fits all the same
        x.strike(0);
        DUE.is(x.fits(0, 0), 1);
        DUE.is(x.fits(-1, 0), -1);
        DUE.is(x.fits(2, 0), -1);
        DUE.is(x.fits(0, -1), -1);
        DUE.is(x.fits(0, 4), -1);
    }

    private static void narrowest() {
        // widths 2048, 1024, 1024, 4096
        WritHouse x = withForms("fact 0", "fact 0 and fact 1", "fact 0 and fact 2", "most 0(0)");
        x.petition(0, 0);
        x.petition(0, 1);
        x.petition(0, 7);
        x.petition(0, 5);
        DUE.is(x.fit(0, 0), 3);
        DUE.is(x.fit(1, 0), 0);
        DUE.is(x.fit(2, 0), 1);
        DUE.is(x.fit(3, 0), 2);
        DUE.is(x.fit(-1, 0), -1);
        DUE.is(x.fit(4, 0), -1);
        DUE.is(x.fit(0, -1), -1);
        DUE.is(x.fit(0, 3600), -1);
        x.days(10);
        x.strike(1);
        x.strike(3);
        DUE.is(x.fit(2, 9), 1);
        DUE.is(x.fit(2, 10), 2);
        DUE.is(x.fit(0, 9), 3);
        DUE.is(x.fit(0, 10), -3);
        x.days(5);
        Due.read(x, 5, "say 1;");
        DUE.is(x.fit(0, 14), -3);
        DUE.is(x.fit(0, 15), 4);
        DUE.is(x.fit(0, 3599), 4);
    }

    private static void lack() {
        WritHouse x = withForms("fact 3 and fact 4", "fact 9 and fact 10 and fact 11", "most 2(5 6 7) and not fact 0");
        x.petition(0, 0);
        x.petition(0, 8);
        x.petition(0, 1 + 1536);
        x.petition(0, 1);
        x.petition(0, 24);
        x.petition(0, 32 + 64);
        // two more for the first or the third: 8 + 16 is the least number
        DUE.is(x.lack(0, 0), 24);
        DUE.is(x.lack(1, 0), 16);
        DUE.is(x.lack(2, 0), 2048);
        DUE.is(x.lack(3, 0), 24);
        DUE.is(x.lack(4, 0), 0);
        DUE.is(x.lack(5, 0), 0);
        DUE.is(x.lack(-1, 0), -1);
        DUE.is(x.lack(6, 0), -1);
        DUE.is(x.lack(0, -1), -1);
        DUE.is(x.lack(0, 3600), -1);
        x.days(1);
        x.strike(0);
        DUE.is(x.lack(0, 0), 24);
        DUE.is(x.lack(0, 1), 32 + 64);
        DUE.is(x.lack(3, 1), 512 + 1024 + 2048);
        x.strike(1);
        DUE.is(x.lack(3, 1), -3);
        // all twelve would not do, but one does
        WritHouse y = withForms("fact 1 and not fact 2");
        y.petition(0, 0);
        y.petition(0, 4);
        DUE.is(y.lack(0, 0), 2);
        DUE.is(y.lack(1, 0), -3);
        WritHouse none = withForms();
        none.petition(0, 0);
        DUE.is(none.lack(0, 0), -3);
        DUE.is(none.fit(0, 0), -3);
        DUE.is(none.prove(0, 0), 0);
        DUE.is(none.judge(0, 0), 0);
    }

    private static WritHouse forRows() {
        WritHouse x = withForms("fact 5", "fact 0 and fact 1", "fact 3 unless fact 2", "most 0(1)", "not fact 2");
        x.petition(0, 4);
        x.petition(0, 0);
        return x;
    }

    private static void rows() {
        WritHouse x = forRows();
        DUE.is(x.prove(-1, 0), -1);
        DUE.is(x.prove(2, 0), -1);
        DUE.is(x.prove(0, -1), -1);
        DUE.is(x.prove(0, 3600), -1);
        DUE.is(x.many(8), 0);
        DUE.is(x.prove(0, 0), 4);
        DUE.is(x.many(8), 4);
        int[][] due = {{0, 5}, {1, -1}, {2, -1}, {4, 2}};
        for (int i = 0; i < 4; i++) {
            DUE.is(x.row(i, 0), due[i][0]);
            DUE.is(x.row(i, 1), due[i][1]);
        }
        DUE.is(x.row(-1, 0), -9);
        DUE.is(x.row(4, 0), -9);
        DUE.is(x.row(0, -1), -9);
        DUE.is(x.row(0, 2), -9);
        // the least fact of several
        WritHouse y = withForms("most 1(9 4 7)");
        y.petition(0, 0);
        DUE.is(y.prove(0, 0), 1);
        DUE.is(y.row(0, 1), 4);
        DUE.is(y.alterRow(-1, 0, 5), -9);
        DUE.is(y.alterRow(1, 0, 5), -9);
        DUE.is(y.alterRow(0, 2, 5), -9);
        DUE.is(y.alterRow(0, -1, 5), -9);
        DUE.is(y.alterRow(0, 0, -77), 0);
        DUE.is(y.alterRow(0, 1, Integer.MIN_VALUE), 4);
        DUE.is(y.row(0, 0), -77);
        DUE.is(y.row(0, 1), Integer.MIN_VALUE);
        // on another day there are others
        y.days(1);
        y.strike(0);
        DUE.is(y.prove(0, 0), 1);
        DUE.is(y.prove(0, 1), 0);
        DUE.is(y.row(0, 0), -9);
    }

    private static void judge() {
        WritHouse x = forRows();
        DUE.is(x.judge(-1, 0), -1);
        DUE.is(x.judge(2, 0), -1);
        DUE.is(x.judge(0, -1), -1);
        DUE.is(x.judge(0, 3600), -1);
        // none are right, but too few: the row of the first one
        DUE.is(x.judge(0, 0), 1);
        x.prove(0, 0);
        DUE.is(x.judge(0, 0), 0);
        x.alterRow(3, 1, 3);
        DUE.is(x.judge(0, 0), 4);
        x.alterRow(1, 0, 2);
        DUE.is(x.judge(0, 0), 2);
        x.alterRow(1, 0, 1);
        x.alterRow(3, 1, 2);
        DUE.is(x.judge(0, 0), 0);
        // of petition 1 three do not fit: 0 by 5, 1 by none, 2 by 3
        DUE.is(x.judge(1, 0), 3);
        DUE.is(x.alterRow(2, 1, 3), -1);
        DUE.is(x.judge(1, 0), 4);
        // too few
        DUE.is(x.prove(1, 0), 3);
        x.days(1);
        DUE.is(Due.read(x, 5, "say 1;wants fact 6;"), 5);
        DUE.is(x.judge(1, 0), 0);
        DUE.is(x.judge(1, 1), 4);
        // too many
        x.strike(5);
        x.strike(2);
        DUE.is(x.judge(1, 1), 3);
    }
}
