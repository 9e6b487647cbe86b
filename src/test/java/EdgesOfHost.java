/** Section 13 of the Terms and promises 53 to 61, sentence by sentence. */
final class EdgesOfHost {
    private static final int MIN = Integer.MIN_VALUE, MAX = Integer.MAX_VALUE;

    private final Sentences s;

    EdgesOfHost(Sentences s) {
        this.s = s;
    }

    void run() {
        termsOfActs();
        termsOfLetterAndClose();
        termsOfPatentAndCharter();
        termsOfInspectedWritAndWarrant();
        termsOfTheTrace();
        termsOfSheetsAndShelves();
        sheet();
        put();
        item();
        comes();
        shelf();
        taken();
        act();
        trace();
        many();
    }

    /** A house in which version 3 is of the text, and a letter of it, of petition 4, is on shelf 0. */
    private static WritHouse withLetter(String text) {
        WritHouse x = new WritHouse();
        x.person(0);
        for (int p = 0; p < 5; p++) x.petition(0, 0);
        for (int v = 0; v < 3; v++) Due.read(x, v, "say 1;");
        Due.read(x, 3, text);
        x.letter(0, 3, 4);
        x.shelf(0, 0, 0);
        return x;
    }

    /** One of six words of a kind; an inspected one has five of its own. */
    private static WritHouse withKind(String kind) {
        if (!kind.equals("inspected")) return withLetter("say 1 2 3 4 5 6;kind " + kind + ";");
        WritHouse x = withLetter("say 1;");
        Due.read(x, 3, "say 1 2 3 4 5;kind charter;");
        x.letter(0, 4, 4);
        x.inspect(1, 0);
        x.shelf(0, 0, 1);
        return x;
    }

    private void isTrace(WritHouse x, int... due) {
        s.is(x.many(12), due.length);
        for (int i = 0; i < due.length; i++) s.is(x.trace(i), due[i]);
        s.is(x.trace(due.length), -3);
    }

    private void isAct(WritHouse x, int act, int with, int due, int... trace) {
        s.is(x.act(0, act, with), due);
        isTrace(x, trace);
    }

    private void termsOfActs() {
        s.terms(13, "ACTS of a LETTER by its KIND, with a number x (ints that wrap): 0 moves, 1 binds, 2 ends, 3 enrols.");
        WritHouse x = withKind("letter");
        isAct(x, 0, 5, 11, 10);
        isAct(x, 1, 5, 33, 11, 10);
        isAct(x, 2, 5, 29, 12, 11, 10);
        isAct(x, 3, 5, 2, 13);
        isAct(x, 0, MAX, MIN + 5, 10);
        isAct(x, 1, MAX, MIN + 15, 11, 10);
        isAct(x, 2, MAX, MIN + 11, 12, 11, 10);
        isAct(x, 1, MIN - 2, MIN + 12, 11, 10);
        isAct(withKind("patent"), 0, MAX, 10, 30, 10);
        isAct(withKind("warrant"), 0, MAX - 5, MIN, 70, 10);
        isAct(withKind("patent"), 3, MAX, MIN / 2 + 4, 31, 13);
        isAct(withLetter("say 1 2 3;"), 3, MIN, MIN, 13);
        isAct(withLetter("say 1 2 3;kind writ;"), 3, MIN, MIN, 61, 13);

        s.terms(13, "BODIES, each with its number; w: how many words it has, p: its PETITION, v: its VERSION.");
        isAct(withLetter("say 1;"), 0, 0, 1, 10);
        isAct(withLetter("say 1 2 3 4 5 6 7 8 9 10 11 12;"), 0, 0, 12, 10);
        isAct(withLetter("say land;"), 2, 0, 3 - 4, 12, 11, 10);
        isAct(withLetter("say 1;kind close;"), 1, 0, 3 ^ 3, 20, 11, 10);
        // with what is set in
        isAct(withKind("inspected"), 3, 5, 6 / 2 + 4, 31, 13);
    }

    private void termsOfLetterAndClose() {
        WritHouse x = withKind("letter");
        s.terms(13, "letter: 10 moves: x + w.");
        isAct(x, 0, -6, 0, 10);
        s.terms(13, "11 binds: moves(x) * 3.");
        isAct(x, 1, -7, -3, 11, 10);
        s.terms(13, "12 ends: binds(x) - p.");
        isAct(x, 2, -6, -4, 12, 11, 10);

        s.terms(13, "13 enrols: x by (w - 4), the rest away (-15 if w is 4; that is all that act() answers then).");
        String[] words = {"1", "1 2", "1 2 3", "1 2 3 4", "1 2 3 4 5", "1 2 3 4 5 6"};
        int[] of8 = {-2, -4, -8, -15, 8, 4}, of7 = {-2, -3, -7, -15, 7, 3}, ofLess7 = {2, 3, 7, -15, -7, -3};
        for (int i = 0; i < words.length; i++) {
            isAct(withLetter("say " + words[i] + ";"), 3, 8, of8[i], 13);
            isAct(withLetter("say " + words[i] + ";"), 3, 7, of7[i], 13);
            isAct(withLetter("say " + words[i] + ";"), 3, -7, ofLess7[i], 13);
            isAct(withLetter("say " + words[i] + ";"), 3, 0, i == 3 ? -15 : 0, 13);
        }
        isAct(withLetter("say 1 2 3 4;kind patent;"), 3, 8, -15, 31, 13);
        isAct(withLetter("say 1 2 3 4;kind charter;"), 3, 8, -15, 31, 13);
        isAct(withLetter("say 1 2 3 4;kind writ;"), 3, 8, -15, 61, 13);
        isAct(withLetter("say 1 2 3 4;kind warrant;"), 3, 8, -15, 13);
        // the other acts do not part, be it behind one that did
        WritHouse four = withLetter("say 1 2 3 4;");
        isAct(four, 0, 8, 12, 10);
        isAct(four, 3, 8, -15, 13);
        isAct(four, 0, 8, 12, 10);
        isAct(four, 1, -9, -15, 11, 10);

        s.terms(13, "close: 20 binds: super.binds(x) ^ v.");
        WritHouse close = withKind("close");
        isAct(close, 0, 5, 11, 10);
        isAct(close, 1, 5, 33 ^ 3, 20, 11, 10);
        isAct(close, 2, 5, (33 ^ 3) - 4, 12, 20, 11, 10);
        isAct(close, 3, 5, 2, 13);
        isAct(close, 1, -7, -3 ^ 3, 20, 11, 10);
    }

    private void termsOfPatentAndCharter() {
        s.terms(13, "patent: 30 moves: super.moves(x) * 2.");
        WritHouse patent = withKind("patent");
        isAct(patent, 0, 5, 22, 30, 10);
        isAct(patent, 1, 5, 66, 11, 30, 10);
        isAct(patent, 2, 5, 62, 12, 11, 30, 10);

        s.terms(13, "31 enrols: super.enrols(x + 1) + p.");
        isAct(patent, 3, 5, 3 + 4, 31, 13);
        isAct(patent, 3, -1, 4, 31, 13);
        isAct(patent, 3, -4, -1 + 4, 31, 13);

        s.terms(13, "charter: 40 ends: super.ends(x) + moves(1).");
        WritHouse charter = withKind("charter");
        isAct(charter, 0, 5, 22, 30, 10);
        isAct(charter, 1, 5, 66, 11, 30, 10);
        isAct(charter, 2, 5, 62 + 14, 40, 12, 11, 30, 10, 30, 10);
        isAct(charter, 3, 5, 7, 31, 13);
    }

    private void termsOfInspectedWritAndWarrant() {
        s.terms(13, "inspected: 50 moves: super.moves(x) - 7.");
        WritHouse inspected = withKind("inspected");
        isAct(inspected, 0, 5, 15, 50, 30, 10);

        s.terms(13, "51 binds: super.binds(x) + moves(0).");
        isAct(inspected, 1, 5, 45 + 5, 51, 11, 50, 30, 10, 50, 30, 10);
        isAct(inspected, 2, 5, 50 - 4 + 7, 40, 12, 51, 11, 50, 30, 10, 50, 30, 10, 50, 30, 10);

        s.terms(13, "writ: 60 ends: super.ends(x) - binds(2).");
        WritHouse writ = withKind("writ");
        isAct(writ, 0, 5, 11, 10);
        isAct(writ, 1, 5, 33 ^ 3, 20, 11, 10);
        isAct(writ, 2, 5, (33 ^ 3) - 4 - (24 ^ 3), 60, 12, 20, 11, 10, 20, 11, 10);

        s.terms(13, "61 enrols: 0 - super.enrols(x).");
        isAct(writ, 3, 5, -2, 61, 13);
        isAct(writ, 3, -5, 2, 61, 13);

        s.terms(13, "warrant: 70 moves: 0 - super.moves(x).");
        WritHouse warrant = withKind("warrant");
        isAct(warrant, 0, 5, -11, 70, 10);
        isAct(warrant, 1, 5, -33, 11, 70, 10);
        isAct(warrant, 2, 5, -37, 12, 11, 70, 10);
        isAct(warrant, 3, 5, 2, 13);
    }

    private void termsOfTheTrace() {
        s.terms(13, "THE TRACE: numbers of the bodies that ran in the latest act(), as they began (left first);");
        WritHouse x = withKind("charter");
        isTrace(x);
        isAct(x, 2, 0, 36 - 4 + 14, 40, 12, 11, 30, 10, 30, 10);
        isAct(x, 0, 0, 12, 30, 10);
        isAct(x, 0, 0, 12, 30, 10);

        s.terms(13, "the first 30 are kept.");
        // no act runs as many: the longest is kept whole
        WritHouse inspected = withKind("inspected");
        inspected.act(0, 2, 0);
        isTrace(inspected, 40, 12, 51, 11, 50, 30, 10, 50, 30, 10, 50, 30, 10);
    }

    private void termsOfSheetsAndShelves() {
        s.terms(13, "SHEETS 0 to 3 are rows of bytes (sort 0), shorts (1), ints (2), longs (3) or booleans (4), 40 at most, or missing (at"
            + " first).");
        for (int sheet = 0; sheet < 4; sheet++) {
            WritHouse x = new WritHouse();
            for (int sort = 0; sort < 5; sort++) s.is(x.item(sheet, sort, 0), -11);
            for (int sort = 0; sort < 5; sort++) {
                s.got(x.sheet(sheet, sort, 41), x.sheet(sheet, sort, 40)).are(-1, 1);
                for (int as = 0; as < 5; as++) s.is(x.item(sheet, as, 39), as == sort ? 0 : -13);
                s.is(x.item(sheet, sort, 40), -12);
            }
        }
        s.got(new WritHouse().sheet(-1, 0, 1), new WritHouse().sheet(4, 0, 1)).are(-1, -1);
        int[] puts = {127, 128, 255, 256, 32767, 32768, 65536, -1, MAX, MIN, 0, 1};
        int[][] due = {
            {127, -128, -1, 0, -1, 0, 0, -1, -1, 0, 0, 1}, {127, 128, 255, 256, 32767, -32768, 0, -1, -1, 0, 0, 1}, puts, puts,
            {1, 1, 1, 1, 1, 1, 1, 1, 1, 1, 0, 1}};
        for (int sort = 0; sort < 5; sort++) {
            WritHouse x = new WritHouse();
            x.sheet(0, sort, puts.length);
            for (int i = 0; i < puts.length; i++) s.got(x.put(0, i, puts[i]), x.item(0, sort, i)).are(1, due[sort][i]);
        }

        s.terms(13, "SHELVES 0 to 3 hold a LETTER (which is of its KIND as it is now; nothing, if it is not there any more), a SHEET's row,"
            + " or nothing (at first).");
        WritHouse y = withKind("charter");
        for (int shelf = 1; shelf < 4; shelf++) s.got(y.taken(shelf, 0), y.taken(shelf, 10)).are(-11, -11);
        y.sheet(0, 4, 7);
        y.keep();
        y.letter(0, 3, 4);
        s.got(y.shelf(0, 0, 1), y.shelf(1, 0, 0), y.shelf(2, 1, 0), y.shelf(3, 0, 1)).are(1, 1, 1, 1);
        s.got(y.taken(3, 3), y.taken(3, 4), y.taken(1, 3), y.taken(2, 14)).are(1, -13, 0, 7);
        y.inspect(1, 0);
        s.got(y.taken(3, 4), y.taken(0, 4), y.act(3, 0, 0)).are(1, 1, 17);
        y.again();
        s.got(y.taken(3, 4), y.taken(3, 0), y.taken(3, 14), y.act(3, 0, 0), y.taken(1, 3), y.taken(2, 14)).are(-11, -11, -11, 0, 0, 7);
        s.got(y.taken(-1, 0), y.taken(4, 0), y.shelf(-1, 2, 0), y.shelf(4, 2, 0)).are(-1, -1, -1, -1);
    }

    private void sheet() {
        s.promise(53, "A SHEET becomes a row of n of a sort, all 0, or missing (sort -1): 1.");
        WritHouse x = new WritHouse();
        s.got(x.sheet(0, 2, 2), x.item(0, 2, 0), x.item(0, 2, 1), x.item(0, 2, 2)).are(1, 0, 0, -12);
        x.put(0, 0, 7);
        s.got(x.sheet(0, 2, 40), x.item(0, 2, 0), x.put(0, 39, 7), x.item(0, 2, 39)).are(1, 0, 1, 7);
        s.got(x.sheet(0, 2, 40), x.item(0, 2, 39), x.sheet(0, 3, 0), x.item(0, 3, 0)).are(1, 0, 1, -12);
        for (int n : new int[] {0, 1, 40, -1, MIN}) {
            x.sheet(1, 2, 3);
            s.got(x.sheet(1, -1, n), x.item(1, 2, 0), x.put(1, 0, 1)).are(1, -11, -11);
        }

        s.promise(53, "BAD: no such SHEET, sort, n above 40;");
        x.sheet(0, 2, 3);
        x.put(0, 2, 9);
        s.all(-1, x.sheet(-1, 0, 1), x.sheet(4, 0, 1), x.sheet(MIN, 0, 1), x.sheet(MAX, 0, 1));
        s.all(-1, x.sheet(0, -2, 1), x.sheet(0, 5, 1), x.sheet(0, MIN, 1), x.sheet(0, MAX, 1));
        s.all(-1, x.sheet(0, 2, 41), x.sheet(0, 0, MAX), x.sheet(0, -1, 41));
        // ahead of a size below 0
        s.all(-1, x.sheet(4, 0, -1), x.sheet(0, 5, -1), x.sheet(0, -2, -1));
        s.is(x.item(0, 2, 2), 9);

        s.promise(53, "-14.");
        for (int sort = 0; sort < 5; sort++) s.all(-14, x.sheet(0, sort, -1), x.sheet(0, sort, MIN), x.sheet(3, sort, -1));
        s.got(x.item(0, 2, 2), x.item(3, 2, 0)).are(9, -11);
    }

    private void put() {
        s.promise(54, "Item i becomes v, narrowed to its sort (booleans: whether it isn't 0): 1.");
        WritHouse x = new WritHouse();
        for (int sort = 0; sort < 4; sort++) {
            x.sheet(sort, sort, 40);
            s.got(x.put(sort, 0, 0x12345678), x.put(sort, 39, -2)).are(1, 1);
        }
        s.got(x.item(0, 0, 0), x.item(1, 1, 0), x.item(2, 2, 0), x.item(3, 3, 0)).are(0x78, 0x5678, 0x12345678, 0x12345678);
        s.got(x.item(0, 0, 39), x.item(1, 1, 39), x.item(2, 2, 39), x.item(3, 3, 39)).are(-2, -2, -2, -2);
        x.sheet(0, 4, 1);
        s.got(x.put(0, 0, 256), x.item(0, 4, 0), x.put(0, 0, 0), x.item(0, 4, 0), x.put(0, 0, MIN), x.item(0, 4, 0)).are(1, 1, 1, 0, 1, 1);

        s.promise(54, "BAD: no such SHEET;");
        s.all(-1, x.put(-1, 0, 0), x.put(4, 0, 0), x.put(MIN, 0, 0), x.put(MAX, 0, 0), x.put(4, 99, 0));

        s.promise(54, "-11;");
        WritHouse y = new WritHouse();
        s.all(-11, y.put(0, 0, 1), y.put(3, 0, 1), y.put(0, -1, 1), y.put(0, 40, 1));
        y.sheet(0, 0, 1);
        y.sheet(0, -1, 0);
        s.is(y.put(0, 0, 1), -11);

        s.promise(54, "-12.");
        s.all(-12, x.put(2, -1, 1), x.put(2, 40, 1), x.put(2, MIN, 1), x.put(2, MAX, 1), x.put(0, 1, 1));
        y.sheet(0, 0, 0);
        s.all(-12, y.put(0, 0, 1), y.put(0, -1, 1));
    }

    private void item() {
        s.promise(55, "Item i, taken for a sort (0 to 4; of longs the lowest 32 bits, of booleans 1, 0).");
        WritHouse x = new WritHouse();
        for (int sort = 0; sort < 4; sort++) {
            x.sheet(sort, sort, 2);
            x.put(sort, 1, 5);
            s.got(x.item(sort, sort, 0), x.item(sort, sort, 1)).are(0, 5);
        }
        x.put(3, 0, MIN);
        s.is(x.item(3, 3, 0), MIN);
        x.sheet(0, 4, 2);
        x.put(0, 1, 5);
        s.got(x.item(0, 4, 0), x.item(0, 4, 1)).are(0, 1);

        s.promise(55, "BAD: no such SHEET, sort;");
        s.all(-1, x.item(-1, 0, 0), x.item(4, 0, 0), x.item(MIN, 0, 0), x.item(MAX, 0, 0));
        s.all(-1, x.item(1, -1, 0), x.item(1, 5, 0), x.item(1, MIN, 0), x.item(1, MAX, 0));
        s.all(-1, x.item(1, 5, 9), new WritHouse().item(0, 5, 0));

        s.promise(55, "-13;");
        for (int sort = 0; sort < 5; sort++) s.is(x.item(2, sort, 0), sort == 2 ? 0 : -13);
        // ahead of a place outside, of a row of none, too
        x.sheet(1, 1, 0);
        s.all(-13, x.item(2, 3, 2), x.item(2, 1, -1), x.item(1, 2, 0));

        s.promise(55, "-11;");
        x.sheet(0, -1, 0);
        for (int sort = 0; sort < 5; sort++) s.all(-11, x.item(0, sort, 0), x.item(0, sort, -1), x.item(0, sort, 40));

        s.promise(55, "-12.");
        s.all(-12, x.item(2, 2, -1), x.item(2, 2, 2), x.item(2, 2, MIN), x.item(2, 2, MAX), x.item(1, 1, 0));

        s.promise(55, "(An item may be as low as these, too.)");
        for (int low : new int[] {-1, -11, -12, -13, MIN}) {
            x.put(2, 0, low);
            s.is(x.item(2, 2, 0), low);
        }
    }

    private void comes() {
        s.promise(56, "A LETTER is written from a SHEET taken for ints: items i, i + 1, i + 2 are hand, version, petition of letter(): what"
            + " that answers.");
        WritHouse x = withLetter("say 1;");
        x.person(0);
        x.sheet(0, 2, 40);
        x.put(0, 37, 1);
        x.put(0, 38, 2);
        x.put(0, 39, 3);
        s.got(x.comes(0, 37), x.letterOf(1, 3), x.letterOf(1, 1), x.letterOf(1, 2)).are(1, 1, 2, 3);
        s.got(x.comes(0, 0), x.letterOf(2, 3), x.letterOf(2, 1), x.letterOf(2, 2)).are(2, 0, 0, 0);
        x.put(0, 37, 2);
        s.is(x.comes(0, 37), -1);
        x.put(0, 37, -1);
        s.is(x.comes(0, 37), -1);
        x.put(0, 37, 1);
        x.strike(2);
        s.is(x.comes(0, 37), -4);
        for (int l = 3; l < 24; l++) x.letter(0, 0, 0);
        s.got(x.comes(0, 0), x.comes(0, 37), x.many(7)).are(-2, -4, 24);

        s.promise(56, "BAD: no such SHEET;");
        s.all(-1, x.comes(-1, 0), x.comes(4, 0), x.comes(MIN, 0), x.comes(MAX, 0), x.comes(4, 99));

        s.promise(56, "-13;");
        for (int sort = 0; sort < 5; sort++) {
            WritHouse y = withLetter("say 1;");
            y.sheet(1, sort, 3);
            s.got(y.comes(1, 0), y.comes(1, 1)).are(sort == 2 ? 1 : -13, sort == 2 ? -12 : -13);
        }

        s.promise(56, "-11;");
        s.all(-11, x.comes(1, 0), x.comes(1, -1), x.comes(3, 99));
        x.sheet(0, -1, 0);
        s.is(x.comes(0, 0), -11);

        s.promise(56, "-12.");
        WritHouse z = withLetter("say 1;");
        z.sheet(0, 2, 40);
        s.all(-12, z.comes(0, -1), z.comes(0, -2), z.comes(0, -3), z.comes(0, 38), z.comes(0, 39), z.comes(0, 40));
        s.all(-12, z.comes(0, MAX), z.comes(0, MAX - 1), z.comes(0, MAX - 2), z.comes(0, MIN));
        for (int n = 0; n < 3; n++) {
            z.sheet(1, 2, n);
            s.is(z.comes(1, 0), -12);
        }
        s.is(z.many(7), 1);
    }

    private void shelf() {
        s.promise(57, "A SHELF holds LETTER n (what 0), the row of SHEET n (1; nothing, if missing), nothing (2): 1.");
        WritHouse x = withLetter("say 1;");
        x.letter(0, 0, 0);
        x.sheet(3, 0, 5);
        for (int shelf = 0; shelf < 4; shelf++) {
            s.got(x.shelf(shelf, 0, 1), x.taken(shelf, 0), x.shelf(shelf, 0, 0), x.taken(shelf, 0)).are(1, 1, 1, 0);
            s.got(x.shelf(shelf, 1, 3), x.taken(shelf, 10), x.taken(shelf, 0)).are(1, 5, -13);
            s.got(x.shelf(shelf, 1, 0), x.taken(shelf, 10), x.taken(shelf, 0)).are(1, -11, -11);
            s.got(x.shelf(shelf, 0, 0), x.shelf(shelf, 2, 0), x.taken(shelf, 0), x.taken(shelf, 10)).are(1, 1, -11, -11);
        }
        s.got(x.shelf(0, 2, -1), x.shelf(0, 2, MAX)).are(1, 1);

        s.promise(57, "BAD.");
        x.shelf(0, 0, 1);
        s.all(-1, x.shelf(-1, 0, 0), x.shelf(4, 0, 0), x.shelf(MIN, 2, 0), x.shelf(MAX, 2, 0));
        s.all(-1, x.shelf(0, -1, 0), x.shelf(0, 3, 0), x.shelf(0, MIN, 0), x.shelf(0, MAX, 0));
        s.all(-1, x.shelf(0, 0, -1), x.shelf(0, 0, 2), x.shelf(0, 0, MIN), x.shelf(0, 0, MAX));
        s.all(-1, x.shelf(0, 1, -1), x.shelf(0, 1, 4), x.shelf(0, 1, MIN), x.shelf(0, 1, MAX));
        s.is(x.taken(0, 0), 1);
    }

    private void taken() {
        s.promise(58, "What a SHELF holds taken for a LETTER of KIND as (0 to 6, or one under it): its number; for a row of sort as - 10 (as"
            + " 10 to 14): how many items.");
        String[] kinds = {"letter", "close", "patent", "charter", "inspected", "writ", "warrant"};
        String[] isOf = {"0", "01", "02", "023", "0234", "015", "06"};
        for (int kind = 0; kind < 7; kind++) {
            WritHouse x = withKind(kinds[kind]);
            int number = kind == 4 ? 1 : 0;
            for (int as = 0; as < 7; as++) s.is(x.taken(0, as), isOf[kind].indexOf('0' + as) >= 0 ? number : -13);
        }
        WritHouse x = withKind("letter");
        for (int sort = 0; sort < 5; sort++) {
            for (int n : new int[] {0, 1, 40}) {
                x.sheet(0, sort, n);
                x.shelf(0, 1, 0);
                s.is(x.taken(0, 10 + sort), n);
            }
        }

        s.promise(58, "BAD: no such SHELF, as;");
        s.all(-1, x.taken(-1, 0), x.taken(4, 0), x.taken(MIN, 0), x.taken(MAX, 0));
        s.all(-1, x.taken(0, -1), x.taken(0, 7), x.taken(0, 8), x.taken(0, 9), x.taken(0, 15), x.taken(0, MIN), x.taken(0, MAX));
        s.all(-1, x.taken(1, 7), x.taken(4, 9));

        s.promise(58, "-13;");
        x.sheet(0, 2, 3);
        x.shelf(0, 1, 0);
        for (int as = 0; as < 7; as++) s.is(x.taken(0, as), -13);
        s.all(-13, x.taken(0, 10), x.taken(0, 11), x.taken(0, 13), x.taken(0, 14));
        x.shelf(0, 0, 0);
        for (int as = 10; as < 15; as++) s.is(x.taken(0, as), -13);

        s.promise(58, "-11.");
        x.shelf(0, 2, 0);
        for (int as = 0; as < 15; as++) if (as < 7 || as > 9) s.all(-11, x.taken(0, as), x.taken(3, as));
    }

    private void act() {
        s.promise(59, "An ACT (0 to 3) of what a SHELF holds, taken for a LETTER, with x.");
        WritHouse x = withKind("letter");
        x.letter(0, 0, 4);
        x.shelf(3, 0, 1);
        s.got(x.act(3, 0, 5), x.act(3, 1, 5), x.act(3, 2, 5), x.act(3, 3, 5)).are(6, 18, 14, -1);
        s.got(x.act(0, 0, 5), x.act(0, 1, 5), x.act(0, 2, 5), x.act(0, 3, 5)).are(11, 33, 29, 2);

        s.promise(59, "0, and no TRACE then: no such SHELF, act, nothing, another thing.");
        x.sheet(0, 2, 4);
        x.shelf(2, 1, 0);
        int[][] none = {{-1, 0}, {4, 0}, {MIN, 0}, {MAX, 0}, {0, -1}, {0, 4}, {0, MIN}, {0, MAX}, {1, 0}, {2, 0}, {2, 3}, {1, 4}};
        for (int[] call : none) {
            isAct(x, 2, 5, 29, 12, 11, 10);
            s.is(x.act(call[0], call[1], 5), 0);
            isTrace(x);
        }
    }

    private void trace() {
        s.promise(60, "THE TRACE's i-th body.");
        WritHouse x = withKind("letter");
        x.act(0, 2, 5);
        s.got(x.trace(0), x.trace(1), x.trace(2)).are(12, 11, 10);

        s.promise(60, "NONE.");
        s.all(-3, x.trace(-1), x.trace(3), x.trace(30), x.trace(MIN), x.trace(MAX), new WritHouse().trace(0));
    }

    private void many() {
        s.promise(61, "How many: what = 0 TODAY, 1 KINGS, 2 PERSONS, 3 STAYS, 4 HOLDS, 5 VERSIONS, 6 PETITIONS, 7 LETTERS, 8 ROWS, 9 ENTRIES,"
            + " 10 TASKS, 11 bytes of THE TAPE, 12 bodies of THE TRACE, 13 LETTERS that are DONE, 14 that are VOID.");
        WritHouse x = withLetter("say 1;seals 0;");
        x.letter(0, 3, 0);
        x.hold(0, 0, 0, 0);
        x.seal(0, 0);
        for (int l = 0; l < 5; l++) x.letter(0, 0, 0);
        for (int l = 2; l < 6; l++) x.slip(l, 0, 0);
        WritHouse first = withLetter("say 1;");
        s.got(first.many(13), first.many(14), first.slip(0, 0, 0), first.many(13), first.many(14)).are(1, 0, 1, 1, 1);
        // a void one that is done is both
        s.got(x.many(7), x.many(13), x.many(14)).are(7, 6, 4);
        Due.read(x, 4, "say 1;wants fact 0;");
        x.prove(0, 0);
        x.act(0, 2, 0);
        x.feed(0, 8);
        for (int i = 0; i < 10; i++) x.stay(0, 0, 0, 0);
        for (int i = 0; i < 8; i++) x.hold(0, 1, 0, 0);
        for (int i = 0; i < 12; i++) x.enter(0, 0);
        x.king(0, false);
        x.king(1, false);
        x.task(1, 1);
        x.days(99);
        long[] due = {99, 2, 1, 10, 9, 5, 5, 7, 1, 12, 1, 8, 3, 6, 4};
        for (int what = 0; what < due.length; what++) s.is(x.many(what), due[what]);

        s.promise(61, "BAD: another what.");
        s.all(-1, x.many(-1), x.many(15), x.many(MIN), x.many(MAX));
    }
}
