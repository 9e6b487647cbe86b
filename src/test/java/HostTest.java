/** Promises 53 to 61: sheets, shelves, acts, the trace, and how many there are. */
public final class HostTest {
    private static final Due DUE = new Due();
    private static final int MIN = Integer.MIN_VALUE, MAX = Integer.MAX_VALUE;

    public static void main(String[] args) {
        sheets();
        narrowed();
        items();
        comes();
        shelves();
        takenLetters();
        takenRows();
        acts();
        actsOfClose();
        enrols();
        actsOfNothing();
        many();
        DUE.end("HostTest");
    }

    private static WritHouse house(String... texts) {
        WritHouse x = new WritHouse();
        x.person(0);
        for (int p = 0; p < 5; p++) x.petition(0, 0);
        for (int form = 0; form < texts.length; form++) DUE.is(Due.read(x, form, texts[form]), form);
        return x;
    }

    private static void sheets() {
        WritHouse x = new WritHouse();
        DUE.is(x.sheet(-1, 0, 0), -1);
        DUE.is(x.sheet(4, 0, 0), -1);
        DUE.is(x.sheet(0, -2, 0), -1);
        DUE.is(x.sheet(0, 5, 0), -1);
        DUE.is(x.sheet(0, 0, 41), -1);
        DUE.is(x.sheet(0, -1, 41), -1);
        DUE.is(x.sheet(0, -1, MAX), -1);
        DUE.is(x.sheet(0, 0, -1), -14);
        DUE.is(x.sheet(0, 4, MIN), -14);
        DUE.is(x.sheet(5, 0, -1), -1);
        DUE.is(x.put(0, 0, 0), -11);
        DUE.is(x.sheet(0, 2, 40), 1);
        DUE.is(x.put(0, 39, 7), 1);
        DUE.is(x.put(0, 40, 7), -12);
        DUE.is(x.item(0, 2, 39), 7);
        // refused, it stays as it was
        DUE.is(x.sheet(0, 2, -1), -14);
        DUE.is(x.sheet(0, 2, 41), -1);
        DUE.is(x.item(0, 2, 39), 7);
        // anew, all 0
        DUE.is(x.sheet(0, 2, 40), 1);
        DUE.is(x.item(0, 2, 39), 0);
        DUE.is(x.sheet(0, 2, 0), 1);
        DUE.is(x.item(0, 2, 0), -12);
        for (int n : new int[] {0, 5, 40, -1, MIN}) {
            // missing, it has no size, so none that could be below 0
            x.sheet(0, 2, 3);
            DUE.is(x.sheet(0, -1, n), 1);
            DUE.is(x.item(0, 2, 0), -11);
            DUE.is(x.put(0, 0, 1), -11);
            DUE.is(x.comes(0, 0), -11);
            DUE.is(x.shelf(0, 1, 0), 1);
            DUE.is(x.taken(0, 12), -11);
        }
        // refused, it is missing no more than it was
        DUE.is(x.sheet(0, 2, 3), 1);
        DUE.is(x.sheet(0, -1, 41), -1);
        DUE.is(x.item(0, 2, 2), 0);
        DUE.is(x.sheet(4, -1, -1), -1);
        DUE.is(x.sheet(0, -2, -1), -1);
    }

    private static void narrowed() {
        int[] puts = {0, 1, -1, 127, 128, 255, 256, 32767, 32768, 65536, MAX, MIN};
        for (int sort = 0; sort < 5; sort++) {
            WritHouse x = new WritHouse();
            x.sheet(2, sort, puts.length);
            for (int i = 0; i < puts.length; i++) {
                DUE.is(x.put(2, i, puts[i]), 1);
                int v = puts[i];
                int[] due = {(byte) v, (short) v, v, v, v == 0 ? 0 : 1};
                DUE.is(x.item(2, sort, i), due[sort]);
            }
        }
    }

    private static void items() {
        WritHouse x = new WritHouse();
        x.sheet(1, 1, 3);
        DUE.is(x.put(-1, 0, 0), -1);
        DUE.is(x.put(4, 0, 0), -1);
        DUE.is(x.put(0, -1, 0), -11);
        DUE.is(x.put(1, -1, 0), -12);
        DUE.is(x.put(1, 3, 0), -12);
        DUE.is(x.put(1, MAX, 0), -12);
        DUE.is(x.item(-1, 1, 0), -1);
        DUE.is(x.item(4, 1, 0), -1);
        DUE.is(x.item(1, -1, 0), -1);
        DUE.is(x.item(1, 5, 0), -1);
        DUE.is(x.item(0, 5, 0), -1);
        DUE.is(x.item(0, 1, 9), -11);
        for (int sort = 0; sort < 5; sort++) DUE.is(x.item(1, sort, 0), sort == 1 ? 0 : -13);
        // another kind goes before a place outside
        DUE.is(x.item(1, 0, 3), -13);
        DUE.is(x.item(1, 1, 3), -12);
        DUE.is(x.item(1, 1, -1), -12);
        DUE.is(x.put(1, 2, -12), 1);
        DUE.is(x.item(1, 1, 2), -12);
    }

    private static void comes() {
        WritHouse x = house("say 1;");
        x.sheet(0, 2, 4);
        x.put(0, 3, 4);
        DUE.is(x.comes(-1, 0), -1);
        DUE.is(x.comes(4, 0), -1);
        DUE.is(x.comes(1, 0), -11);
        x.sheet(1, 3, 4);
        DUE.is(x.comes(1, 0), -13);
        DUE.is(x.comes(1, 9), -13);
        DUE.is(x.comes(0, -1), -12);
        DUE.is(x.comes(0, 2), -12);
        DUE.is(x.comes(0, MAX), -12);
        DUE.is(x.comes(0, MIN), -12);
        DUE.is(x.many(7), 0);
        DUE.is(x.comes(0, 0), 0);
        DUE.is(x.letterOf(0, 2), 0);
        DUE.is(x.comes(0, 1), 1);
        DUE.is(x.letterOf(1, 2), 4);
        // hand, version, petition, each at its place
        x.person(0);
        DUE.is(Due.read(x, 1, "say 1;"), 1);
        DUE.is(Due.read(x, 2, "say 1;"), 2);
        x.put(0, 1, 1);
        x.put(0, 2, 2);
        x.put(0, 3, 3);
        DUE.is(x.comes(0, 1), 2);
        DUE.is(x.letterOf(2, 3), 1);
        DUE.is(x.letterOf(2, 1), 2);
        DUE.is(x.letterOf(2, 2), 3);
        x.put(0, 1, 2);
        DUE.is(x.comes(0, 1), -1);
        x.put(0, 1, 1);
        x.strike(2);
        DUE.is(x.comes(0, 1), -4);
        x.sheet(2, 2, 2);
        DUE.is(x.comes(2, 0), -12);
        x.sheet(2, 2, 0);
        DUE.is(x.comes(2, 0), -12);
    }

    private static void shelves() {
        WritHouse x = house("say 1;");
        x.letter(0, 0, 0);
        DUE.is(x.shelf(-1, 2, 0), -1);
        DUE.is(x.shelf(4, 2, 0), -1);
        DUE.is(x.shelf(0, -1, 0), -1);
        DUE.is(x.shelf(0, 3, 0), -1);
        DUE.is(x.shelf(0, 0, -1), -1);
        DUE.is(x.shelf(0, 0, 1), -1);
        DUE.is(x.shelf(0, 1, -1), -1);
        DUE.is(x.shelf(0, 1, 4), -1);
        DUE.is(x.taken(0, 0), -11);
        DUE.is(x.shelf(0, 0, 0), 1);
        DUE.is(x.taken(0, 0), 0);
        // a missing row is nothing
        DUE.is(x.shelf(0, 1, 3), 1);
        DUE.is(x.taken(0, 0), -11);
        DUE.is(x.taken(0, 10), -11);
        x.sheet(3, 0, 5);
        DUE.is(x.taken(0, 10), -11);
        DUE.is(x.shelf(0, 1, 3), 1);
        DUE.is(x.taken(0, 10), 5);
        DUE.is(x.shelf(0, 0, 1), -1);
        DUE.is(x.taken(0, 10), 5);
        DUE.is(x.shelf(0, 2, 99), 1);
        DUE.is(x.taken(0, 10), -11);
    }

    private static void takenLetters() {
        String[] kinds = {"letter", "close", "patent", "charter", "writ", "warrant"};
        int[] kind = {0, 1, 2, 3, 5, 6};
        WritHouse x = new WritHouse();
        x.person(0);
        x.petition(0, 0);
        for (int i = 0; i < 6; i++) {
            DUE.is(Due.read(x, i, "say 1;kind " + kinds[i] + ";"), i);
            DUE.is(x.letter(0, i, 0), i);
        }
        DUE.is(x.letter(0, 3, 0), 6);
        x.shelf(1, 0, 6);
        DUE.is(x.taken(1, 4), -13);
        DUE.is(x.taken(1, 3), 6);
        // on the shelf it becomes an inspected one
        x.inspect(6, 0);
        DUE.is(x.taken(1, 4), 6);
        // of which kinds each of the seven is
        String[] under = {"0", "01", "02", "023", "0234", "015", "06"};
        for (int l = 0; l < 7; l++) {
            x.shelf(0, 0, l);
            int k = l == 6 ? 4 : kind[l];
            for (int as = 0; as < 7; as++) {
                DUE.is(x.taken(0, as), under[k].indexOf((char) ('0' + as)) >= 0 ? l : -13);
            }
            for (int as = 10; as < 15; as++) DUE.is(x.taken(0, as), -13);
        }
        for (int as : new int[] {-1, 7, 8, 9, 15, MAX, MIN}) DUE.is(x.taken(0, as), -1);
        DUE.is(x.taken(-1, 0), -1);
        DUE.is(x.taken(4, 0), -1);
        DUE.is(x.taken(2, 7), -1);
        DUE.is(x.taken(2, 0), -11);
    }

    private static void takenRows() {
        WritHouse x = new WritHouse();
        for (int sort = 0; sort < 5; sort++) {
            x.sheet(0, sort, 7 + sort);
            x.shelf(0, 1, 0);
            for (int as = 10; as < 15; as++) DUE.is(x.taken(0, as), as - 10 == sort ? 7 + sort : -13);
            for (int as = 0; as < 7; as++) DUE.is(x.taken(0, as), -13);
        }
        // the shelf keeps its row when the sheet becomes another
        x.sheet(0, 1, 3);
        DUE.is(x.taken(0, 14), 11);
        DUE.is(x.taken(0, 11), -13);
        x.sheet(0, -1, 0);
        DUE.is(x.taken(0, 14), 11);
        x.sheet(1, 2, 0);
        x.shelf(0, 1, 1);
        DUE.is(x.taken(0, 12), 0);
    }

    private static void isAct(WritHouse x, int act, int with, int due, int... trace) {
        DUE.is(x.act(0, act, with), due);
        DUE.is(x.many(12), trace.length);
        for (int i = 0; i < trace.length; i++) DUE.is(x.trace(i), trace[i]);
        DUE.is(x.trace(trace.length), -3);
        DUE.is(x.trace(-1), -3);
    }

    /** A letter of 6 words, of version 3 and petition 4, on shelf 0. */
    private static WritHouse withKind(String kind) {
        String text = "say 1 2 3 4 5 6;kind " + kind + ";";
        WritHouse x = house("say 1;", "say 1;", "say 1;", text);
        x.letter(0, 3, 4);
        x.shelf(0, 0, 0);
        return x;
    }

    private static void acts() {
        WritHouse x = withKind("letter");
        isAct(x, 0, 5, 11, 10);
        isAct(x, 1, 5, 33, 11, 10);
        isAct(x, 2, 5, 29, 12, 11, 10);
        isAct(x, 3, 5, 2, 13);
        isAct(x, 0, MAX, MIN + 5, 10);
        WritHouse patent = withKind("patent");
        isAct(patent, 0, 5, 22, 30, 10);
        isAct(patent, 1, 5, 66, 11, 30, 10);
        isAct(patent, 2, 5, 62, 12, 11, 30, 10);
        isAct(patent, 3, 5, 3 + 4, 31, 13);
        WritHouse charter = withKind("charter");
        isAct(charter, 0, 5, 22, 30, 10);
        isAct(charter, 1, 5, 66, 11, 30, 10);
        isAct(charter, 2, 5, 62 + 14, 40, 12, 11, 30, 10, 30, 10);
        isAct(charter, 3, 5, 7, 31, 13);
        WritHouse warrant = withKind("warrant");
        isAct(warrant, 0, 5, -11, 70, 10);
        isAct(warrant, 1, 5, -33, 11, 70, 10);
        isAct(warrant, 2, 5, -37, 12, 11, 70, 10);
        isAct(warrant, 3, 5, 2, 13);
        isAct(warrant, 0, MIN, MAX - 5, 70, 10);
        // inspected: 6 own words and one set in
        WritHouse inspected = house("say 1;", "say 1;", "say 1;", "kind charter;say 1 2 3 4 5 6;");
        inspected.letter(0, 0, 0);
        inspected.letter(0, 3, 4);
        inspected.inspect(1, 0);
        inspected.shelf(0, 0, 1);
        isAct(inspected, 0, 5, 17, 50, 30, 10);
        isAct(inspected, 1, 5, 51 + 7, 51, 11, 50, 30, 10, 50, 30, 10);
        isAct(inspected, 2, 5, 58 - 4 + 9, 40, 12, 51, 11, 50, 30, 10, 50, 30, 10, 50, 30, 10);
        isAct(inspected, 3, 5, 6 / 3 + 4, 31, 13);
    }

    private static void actsOfClose() {
        WritHouse x = withKind("close");
        isAct(x, 0, 5, 11, 10);
        isAct(x, 1, 5, 33 ^ 3, 20, 11, 10);
        isAct(x, 2, 5, (33 ^ 3) - 4, 12, 20, 11, 10);
        isAct(x, 3, 5, 2, 13);
        WritHouse writ = withKind("writ");
        isAct(writ, 0, 5, 11, 10);
        isAct(writ, 1, 5, 33 ^ 3, 20, 11, 10);
        isAct(writ, 2, 5, (33 ^ 3) - 4 - (24 ^ 3), 60, 12, 20, 11, 10, 20, 11, 10);
        isAct(writ, 3, 5, -2, 61, 13);
        isAct(writ, 1, -9, -9 ^ 3, 20, 11, 10);
    }

    private static void enrols() {
        String[] says = {"1 2 3", "1 2 3 4", "1 2 3 4 5", "1", "1 2 3 4 5 6"};
        int[][] due = {{7, -7}, {0, -15}, {7, 7}, {7, -2}, {7, 3}};
        for (int i = 0; i < says.length; i++) {
            WritHouse x = house("say " + says[i] + ";", "kind writ;say " + says[i] + ";", "kind patent;say " + says[i] + ";");
            x.letter(0, 0, 0);
            x.letter(0, 1, 0);
            x.letter(0, 2, 3);
            x.shelf(0, 0, 0);
            boolean parts = due[i][1] != -15;
            isAct(x, 3, 7, due[i][1], 13);
            // the rest goes away, below 0 as above
            isAct(x, 3, -7, parts ? -due[i][1] : -15, 13);
            x.shelf(0, 0, 1);
            isAct(x, 3, 7, parts ? -due[i][1] : -15, 61, 13);
            x.shelf(0, 0, 2);
            isAct(x, 3, 6, parts ? due[i][1] + 3 : -15, 31, 13);
        }
        // what was parted by 0 is nothing to the next act
        WritHouse four = house("say 1 2 3 4;");
        four.letter(0, 0, 0);
        four.shelf(0, 0, 0);
        isAct(four, 3, 8, -15, 13);
        isAct(four, 0, 8, 12, 10);
        isAct(four, 1, -9, -15, 11, 10);
        WritHouse x = house("say 1 2 3;", "kind patent;say 1 2 3;");
        x.letter(0, 0, 0);
        x.shelf(0, 0, 0);
        isAct(x, 3, MIN, MIN, 13);
        isAct(x, 3, MAX, -MAX, 13);
        x.letter(0, 1, 2);
        x.shelf(0, 0, 1);
        isAct(x, 3, MAX, MIN + 2, 31, 13);
    }

    private static void actsOfNothing() {
        WritHouse x = withKind("patent");
        x.shelf(1, 2, 0);
        x.sheet(0, 2, 3);
        x.shelf(2, 1, 0);
        int[][] nothings = {{-1, 0}, {4, 0}, {0, -1}, {0, 4}, {1, 0}, {2, 0}, {3, 0}};
        for (int[] n : nothings) {
            isAct(x, 0, 5, 22, 30, 10);
            DUE.is(x.act(n[0], n[1], 5), 0);
            DUE.is(x.many(12), 0);
            DUE.is(x.trace(0), -3);
        }
        // one that is there no more
        x.shelf(3, 0, 0);
        WritHouse y = house("say 1;");
        y.keep();
        y.letter(0, 0, 0);
        y.shelf(0, 0, 0);
        isAct(y, 0, 5, 6, 10);
        y.again();
        DUE.is(y.many(12), 1);
        DUE.is(y.taken(0, 0), -11);
        isAct(y, 0, 5, 0);
    }

    private static void many() {
        WritHouse x = house("say land;fee 1;", "say 1;seals 0;");
        for (int what : new int[] {-1, 15, MAX, MIN}) DUE.is(x.many(what), -1);
        x.days(3);
        x.king(2, true);
        x.stay(0, 1, 2, 3);
        x.hold(0, 1, 2, 3);
        x.hold(0, 1, 2, 3);
        for (int i = 0; i < 4; i++) x.letter(0, 0, 0);
        x.letter(0, 1, 0);
        x.fill(2, 0, 5);
        for (int i = 0; i < 6; i++) x.enter(0, 0);
        for (int i = 0; i < 7; i++) x.task(1, 1);
        x.feed(0, 8);
        x.petition(0, 1);
        x.person(0);
        int[] due = {3, 1, 2, 1, 2, 2, 6, 5, 0, 6, 7, 8, 0, 4, 3};
        for (int what = 0; what < due.length; what++) DUE.is(x.many(what), due[what]);
    }
}
