/** Section 3 of the Terms and promises 13 to 17, sentence by sentence. */
final class EdgesOfForms {
    private static final int MIN = Integer.MIN_VALUE, MAX = Integer.MAX_VALUE;
    private static final int RIGHT = -1;

    private final Sentences s;

    EdgesOfForms(Sentences s) {
        this.s = s;
    }

    void run() {
        termsOfTape();
        termsOfParts();
        termsOfItemsAndNumbers();
        termsOfConditions();
        termsOfMost();
        termsOfNamesAndBlanks();
        termsOfFaults();
        termsOfWhatLacks();
        termsOfVersions();
        feed();
        read();
        strike();
        version();
        force();
    }

    /** The place of the fault of a text, or RIGHT. */
    private static int fault(String text) {
        int answer = Due.read(new WritHouse(), 0, text);
        return answer == 0 ? RIGHT : -100 - answer;
    }

    private static int faultOfCond(String cond) {
        int fault = fault("say 1;wants " + cond + ";");
        return fault < 0 ? fault : fault - "say 1;wants ".length();
    }

    /** What version() tells of a new object's only version. */
    private static int told(String text, int what) {
        WritHouse x = new WritHouse();
        Due.read(x, 0, text);
        return x.version(0, what);
    }

    private static int width(String cond) {
        return told("say 1;wants " + cond + ";", 9);
    }

    private void termsOfTape() {
        s.terms(3, "FORMS 0 to 7.");
        WritHouse x = new WritHouse();
        for (int form = 0; form < 8; form++) s.is(Due.read(x, form, "say 1;"), form);
        for (int form = 0; form < 8; form++) s.is(x.force(form, 0), form);
        s.all(-1, Due.read(x, -1, "say 1;"), Due.read(x, 8, "say 1;"));

        s.terms(3, "THE TAPE takes bytes, 400 at most;");
        WritHouse y = new WritHouse();
        for (int i = 1; i <= 50; i++) s.is(y.feed(-1L, 8), 8 * i);
        s.is(y.feed(0, 1), -2);
        s.is(fault("say 1;" + " ".repeat(394)), RIGHT);
        s.is(fault(" ".repeat(394) + "say 1;"), RIGHT);
        s.is(fault(" ".repeat(395) + "say 1"), 400);

        s.terms(3, "read() uses it up.");
        s.is(y.read(0), -100);
        s.is(y.many(11), 0);
        s.is(Due.read(y, 0, "say 1;"), 0);
        s.is(y.many(11), 0);
        s.is(y.read(0), -100);
    }

    private void termsOfParts() {
        s.terms(3, "TEXT: { PART ; }, PARTS each once at most, in any order; say must be there:");
        s.all(RIGHT, fault("say 1;"), fault("fee 1;say 1;"), fault("say 1;fee 1;"));
        s.all(RIGHT, fault("due 1;roll 1;fee 1;seals 1;wants fact 1;say 1;kind writ;"));
        s.all(RIGHT, fault("kind writ;say 1;wants fact 1;seals 1;fee 1;roll 1;due 1;"));
        s.got(fault("say 1;say 1;"), fault("kind writ;say 1;kind writ;"), fault("wants fact 1;say 1;wants fact 1;")).are(6, 16, 19);
        String all = "say 1;fee 1;roll 1;due 1;seals 1;kind writ;wants fact 1;";
        for (String part : all.split(";")) s.is(fault(all + part + ";"), all.length());
        s.got(fault("seals 1;say 1;seals 2;"), fault("fee 1;say 1;fee 1;"), fault("roll 1;say 1;roll 1;"),
            fault("due 1;say 1;due 1;")).are(14, 12, 13, 12);
        s.got(fault("fee 1;"), fault("kind writ;wants fact 1;seals 1;fee 1;roll 1;due 1;")).are(6, 50);
        s.got(fault("say 1"), fault("say 1 fee 1;"), fault("say 1;;"), fault(";say 1;"), fault("1;say 1;")).are(5, 6, 6, 0, 0);

        s.terms(3, "kind K | say ITEM { ITEM } | wants COND | seals S { S } | fee N | roll R | due N");
        s.got(fault("kind;say 1;"), fault("kind writ writ;say 1;"), fault("kind 1;say 1;")).are(4, 10, 5);
        s.got(fault("say;"), fault("say 1 2;"), fault("say fact;")).are(3, RIGHT, 4);
        s.got(fault("wants;say 1;"), fault("wants 1;say 1;")).are(5, 6);
        s.got(fault("seals;say 1;"), fault("seals 1 2;say 1;"), fault("seals land;say 1;")).are(5, RIGHT, 6);
        s.got(fault("fee;say 1;"), fault("fee 1 2;say 1;"), fault("fee land;say 1;")).are(3, 6, 4);
        s.got(fault("roll;say 1;"), fault("roll 1 2;say 1;"), fault("roll land;say 1;")).are(4, 7, 5);
        s.got(fault("due;say 1;"), fault("due 1 2;say 1;"), fault("due land;say 1;")).are(3, 6, 4);
        s.all(0, fault("sal 1;"), fault("hay 1;"), fault("says 1;"), fault("sayz 1;"), fault("sa 1;"), fault("hold 1;"));

        s.terms(3, "K: letter, close, patent, charter, writ, warrant.");
        s.got(told("say 1;kind letter;", 1), told("say 1;kind close;", 1), told("say 1;kind patent;", 1)).are(0, 1, 2);
        s.got(told("say 1;kind charter;", 1), told("say 1;kind writ;", 1), told("say 1;kind warrant;", 1)).are(3, 5, 6);
        s.all(5, fault("kind inspected;say 1;"), fault("kind say;say 1;"), fault("kind lette;say 1;"), fault("kind writs;say 1;"));
        s.all(5, fault("kind better;say 1;"), fault("kind grit;say 1;"), fault("kind patens;say 1;"));
    }

    private void termsOfItemsAndNumbers() {
        s.terms(3, "ITEM: a number 0 to 999 (a WORD), or person, land, amount (PLACES);");
        String items = "say 0 999 person land amount;";
        s.got(told(items, 10), told(items, 11), told(items, 12), told(items, 13), told(items, 14)).are(0, 999, 1001, 1002, 1003);
        s.all(4, fault("say 1000;"), fault("say 1001;"), fault("say persons;"), fault("say lan;"), fault("say -1;"));

        s.terms(3, "12 ITEMS at most.");
        s.is(told("say 1 2 3 4 5 6 7 8 9 10 11 12;", 2), 12);
        s.is(told("say 1 2 3 4 5 6 7 8 9 10 11 12;", 21), 12);
        s.is(fault("say 1 2 3 4 5 6 7 8 9 10 11 12 13;"), 31);
        s.is(told("say land land land land land land land land land land land land;", 21), 1002);

        s.terms(3, "S: 0 to 3, each once at most in seals.");
        s.all(RIGHT, fault("say 1;seals 0;"), fault("say 1;seals 3;"), fault("say 1;seals 3 2 1 0;"));
        s.got(fault("say 1;seals 4;"), fault("say 1;seals 0 4;"), fault("say 1;seals 0 0;"), fault("say 1;seals 3 2 3;")).are(12, 14, 14, 16);
        s.is(fault("say 1;seals 0 1 2 3 0;"), 20);

        s.terms(3, "N: 0 to 999.");
        s.got(told("say 1;fee 0;", 4), told("say 1;fee 999;", 4), told("say 1;due 0;", 6), told("say 1;due 999;", 6)).are(0, 999, 0, 999);
        s.all(10, fault("say 1;fee 1000;"), fault("say 1;due 1000;"), fault("say 1;fee -1;"));

        s.terms(3, "R: 0 to 2.");
        s.got(told("say 1;roll 0;", 5), told("say 1;roll 1;", 5), told("say 1;roll 2;", 5)).are(0, 1, 2);
        s.all(11, fault("say 1;roll 3;"), fault("say 1;roll 999;"));
    }

    private void termsOfConditions() {
        s.terms(3, "COND: ANY [ unless ANY ]");
        s.got(width("fact 0"), width("fact 0 unless fact 1"), width("fact 0 unless fact 0")).are(2048, 1024, 0);
        s.got(width("fact 0 or fact 1 unless fact 2"), width("fact 2 unless fact 0 or fact 1")).are(1536, 512);
        s.is(faultOfCond("fact 0 unless fact 1 unless fact 2"), 21);
        s.is(faultOfCond("fact 0 unless"), 13);

        s.terms(3, "ANY: ALL { or ALL }");
        s.got(width("fact 0 or fact 1"), width("fact 0 or fact 1 or fact 2"), width("fact 0 or fact 1 and fact 2")).are(3072, 3584, 2560);
        s.is(faultOfCond("fact 0 or"), 9);
        s.is(faultOfCond("or fact 0"), 0);

        s.terms(3, "ALL: ONE { and ONE }");
        s.got(width("fact 0 and fact 1"), width("fact 0 and fact 1 and fact 2"), width("fact 0 and fact 1 or fact 2")).are(1024, 512, 2560);
        s.is(faultOfCond("fact 0 and"), 10);
        s.is(faultOfCond("fact 0 and and fact 1"), 11);

        s.terms(3, "ONE: { not } ( fact F | \"(\" COND \")\" | most N \"(\" F { F } \")\" )");
        s.got(width("not fact 0 and fact 1"), width("not not fact 0 and fact 1"), width("not not not not fact 0")).are(1024, 1024, 2048);
        s.got(width("not (fact 0 and fact 1)"), width("(fact 0)"), width("(fact 0 unless fact 1) or fact 1")).are(3072, 2048, 3072);
        s.got(width("not most 1(0 1)"), width("most 1(0)"), width("most 2(0 1 2)")).are(1024, 2048, 2048);
        s.got(faultOfCond("fact"), faultOfCond("fact fact 1"), faultOfCond("1")).are(4, 5, 0);
        s.got(faultOfCond("()"), faultOfCond("(fact 1"), faultOfCond("(fact 1 fact 2)"), faultOfCond("fact 1)")).are(1, 7, 8, 6);
        s.got(faultOfCond("most (1)"), faultOfCond("most 1 1"), faultOfCond("most 1()"), faultOfCond("most 1(1"),
            faultOfCond("most 1(fact 1)")).are(5, 7, 7, 8, 7);
        s.is(faultOfCond("fact 1 not fact 2"), 7);

        s.terms(3, "F: a FACT, 0 to 11;");
        s.got(width("fact 0 and fact 11"), faultOfCond("fact 12"), faultOfCond("fact 999")).are(1024, 5, 5);
        s.got(width("most 2(0 11)"), faultOfCond("most 1(12)"), faultOfCond("most 1(0 12)")).are(1024, 7, 9);
    }

    private void termsOfMost() {
        s.terms(3, "most N: N (0 to 12) or more of those told (one told twice counts twice; 12 at most).");
        s.got(width("most 0(0)"), width("most 1(0)"), width("most 2(0)"), width("most 12(0)")).are(4096, 2048, 0, 0);
        s.is(faultOfCond("most 13(0)"), 5);
        s.got(width("most 2(0 0)"), width("most 3(0 0)"), width("most 3(0 0 1)"), width("most 2(0 0 1)"), width("most 1(0 0 1)"))
            .are(2048, 0, 1024, 2048, 3072);
        String all = "0 1 2 3 4 5 6 7 8 9 10 11";
        s.got(width("most 12(" + all + ")"), width("most 11(" + all + ")"), width("most 1(" + all + ")"),
            width("most 0(" + all + ")")).are(1, 13, 4095, 4096);
        s.is(width("most 12(5 5 5 5 5 5 5 5 5 5 5 5)"), 2048);
        s.is(faultOfCond("most 12(5 5 5 5 5 5 5 5 5 5 5 5 5)"), 32);

        s.terms(3, "At most 5 \"(\" of COND are open within one another.");
        s.is(faultOfCond("(((((fact 1)))))"), RIGHT);
        s.is(faultOfCond("((((((fact 1))))))"), 5);
        s.is(faultOfCond("(((((fact 1))))) and (((((fact 1))))) or (((((fact 1))))) unless (((((fact 1)))))"), RIGHT);
        s.is(faultOfCond("((((fact 1 and (fact 2)) or (fact 3)) unless (fact 4)) and (fact 5))"), RIGHT);
        s.is(faultOfCond("((((fact 1 and ((fact 2))))))"), 16);
        s.is(faultOfCond("(((((most 1(1))))))"), RIGHT);
        // each of the six is "fact 11 unless not fact 0 or fact 0 and" what is within: 11 had, 0 had, and the next not met
        String one = "fact 11 unless not fact 0 or fact 0 and ";
        s.is(width((one + "(").repeat(5) + one + "fact 1" + ")".repeat(5)), 512);
        s.is(width((one + "(").repeat(4) + one + "fact 1" + ")".repeat(4)), 512);
    }

    private void termsOfNamesAndBlanks() {
        s.terms(3, "NAMES are rows of letters a to z, NUMBERS rows of digits (1 to 3 of them), both as long as they go;");
        s.all(RIGHT, fault("say1;"), fault("say1land2person;fee3;"), fault("say 001;"), fault("say 000;"));
        s.got(fault("say 0001;"), fault("say 1 0000;"), fault("say 12345678901;"), fault("say 4294967297;")).are(4, 6, 4, 4);
        s.got(fault("sayland;"), fault("say landland;"), fault("say 1;feeland;")).are(0, 4, 6);
        s.all(0, fault("Say 1;"), fault("SAY 1;"), fault("s\u00e9y 1;".substring(1)), fault("`say 1;"), fault("{say 1;"));
        s.got(fault("say /;"), fault("say :;"), fault("say {;"), fault("say `;"), fault("sayA 1;")).are(4, 4, 4, 4, 3);

        s.terms(3, "blanks (32) where one likes, but not within.");
        s.is(fault("   say   1   person   ;   fee   1   ;   "), RIGHT);
        s.is(fault("say 1;wants not(fact 1)and most 1(1 2)or fact 3;"), RIGHT);
        s.is(fault("say 1 ; wants not ( fact 1 ) and most 1 ( 1 2 ) or fact 3 ;"), RIGHT);
        s.is(told("say 12;", 2), 1);
        s.is(told("say 1 2;", 2), 2);
        s.got(fault("s ay 1;"), fault("say per son;"), fault("say 1;fee 1 0;")).are(0, 4, 12);
        s.got(fault("say\t1;"), fault("say\n1;"), fault("say\u00a01;"), fault("say\u00001;"), fault("say\u001f1;"),
            fault("say!1;")).are(3, 3, 3, 3, 3, 3);
    }

    private void termsOfFaults() {
        s.terms(3, "FAULT: the place (from 0) of the first byte of the first NAME, NUMBER or other byte with which no TEXT goes on,");
        s.got(fault("land"), fault("  land"), fault("7"), fault("  77"), fault("?"), fault("  ?")).are(0, 2, 0, 2, 0, 2);
        s.got(fault("say 1;  warrant;"), fault("say 1  fee"), fault("say 1 ?"), fault("say 1;\u00ff")).are(8, 7, 6, 6);
        // the first of several
        s.got(fault("say 1;fee 1000;roll 9;x"), fault("say 1 ? 1000;")).are(10, 6);

        s.terms(3, "or which is not as told (a PART told twice at its first NAME; the thirteenth ITEM or F; the sixth \"(\");");
        s.got(fault("say 1;fee 1; fee 1;"), fault("say 1;say"), fault("say 1;kind writ;kind 7;")).are(13, 6, 16);
        s.got(fault("say 1 2 3 4 5 6 7 8 9 1 2 3  amount;"), fault("say 1 2 3 4 5 6 7 8 9 1 2 3 4 5;")).are(29, 28);
        s.got(faultOfCond("most 1(0 1 2 3 4 5 6 7 8 9 0 1  2)"), faultOfCond("most 1(0 1 2 3 4 5 6 7 8 9 0 1 2 3)")).are(32, 31);
        s.got(faultOfCond("((((( (fact 1))))))"), faultOfCond("(((((((((((")).are(6, 5);
        s.got(fault("say 1000;"), fault("kind land;"), fault("say 1;seals 1 1;"), fault("say 1;roll 3;")).are(4, 5, 14, 11);

        s.terms(3, "the end (how many bytes there are), if more must come, or all is read and say lacks.");
        s.got(fault(""), fault(" "), fault("     ")).are(0, 1, 5);
        s.got(fault("say"), fault("say "), fault("say 1"), fault("say 1  "), fault("say 1;fee"), fault("say 1;fee 1")).are(3, 4, 5, 7, 9, 11);
        s.got(faultOfEnd("most"), faultOfEnd("most 1"), faultOfEnd("most 1("), faultOfEnd("most 1(1"), faultOfEnd("(fact 1"),
            faultOfEnd("not")).are(0, 0, 0, 0, 0, 0);
        s.got(faultOfEnd("((((("), faultOfEnd("most 1(0 0 0 0 0 0 0 0 0 0 0 0"), faultOfEnd("(((((fact 1)))) ")).are(0, 0, 0);
        s.got(fault("say 1 2 3 4 5 6 7 8 9 1 2 3"), fault("say 1;seals 0 1 2 3"), fault("say 1;kind")).are(27, 19, 10);
        s.got(fault("fee 1;"), fault("fee 1; "), fault("kind writ;wants fact 1;  ")).are(6, 7, 25);
    }

    /** How far from the end of the text its fault is, for a condition behind which nothing comes. */
    private static int faultOfEnd(String cond) {
        String text = "say 1;wants " + cond;
        return text.length() - fault(text);
    }

    private void termsOfWhatLacks() {
        s.terms(3, "Without kind it is a letter;");
        s.is(told("say 1;", 1), 0);

        s.terms(3, "without wants all FACTS meet it;");
        s.is(told("say 1;", 9), 4096);
        WritHouse x = new WritHouse();
        x.person(0);
        x.petition(0, 0);
        x.petition(0, 4095);
        Due.read(x, 0, "say 1;");
        s.all(1, x.fits(0, 0), x.fits(0, 1));

        s.terms(3, "without seals it has none;");
        s.is(told("say 1;", 3), 0);
        s.is(told("say 1;", 30), -1);
        s.is(x.letter(0, 0, 0), 0);
        s.is(x.letterOf(0, 7), 0);

        s.terms(3, "fee, due 0;");
        s.got(told("say 1;", 4), told("say 1;", 6)).are(0, 0);

        s.terms(3, "without roll it goes on none.");
        s.is(told("say 1;", 5), -3);
        for (int roll = 0; roll < 3; roll++) s.is(x.roll(roll, 3), 0);
    }

    private void termsOfVersions() {
        s.terms(3, "A FORM that is read is a VERSION, in force from TODAY on;");
        WritHouse x = new WritHouse();
        x.days(10);
        s.is(Due.read(x, 0, "say 1;"), 0);
        s.got(x.force(0, 9), x.force(0, 10), x.force(0, 3599), x.force(0, 0)).are(-3, 0, 0, -3);

        s.terms(3, "VERSIONS, 16 at most, numbered as they come.");
        WritHouse full = new WritHouse();
        for (int v = 0; v < 16; v++) s.is(Due.read(full, 3, "say 1;"), v);
        s.is(Due.read(full, 3, "say 1;"), -2);
        s.is(full.many(5), 16);

        s.terms(3, "It is so no more from the DAY on which the FORM is read anew or STRUCK.");
        x.days(10);
        s.is(Due.read(x, 0, "say 2;"), 1);
        s.got(x.force(0, 19), x.force(0, 20)).are(0, 1);
        x.days(10);
        s.is(x.strike(0), 1);
        s.got(x.force(0, 19), x.force(0, 20), x.force(0, 29), x.force(0, 30)).are(0, 1, 1, -3);
        // read and struck, or read anew, on the same day: it was never in force
        s.is(Due.read(x, 0, "say 3;"), 2);
        s.is(x.strike(0), 2);
        s.is(x.force(0, 30), -3);
        s.is(Due.read(x, 0, "say 4;"), 3);
        s.is(Due.read(x, 0, "say 5;"), 4);
        s.got(x.force(0, 30), x.version(3, 7), x.version(3, 8), x.version(4, 8)).are(4, 30, 30, -3);
        // one FORM's ending is nothing to another
        s.is(Due.read(x, 7, "say 6;"), 5);
        s.is(x.strike(0), 4);
        s.is(x.force(7, 30), 5);
    }

    private void feed() {
        s.promise(13, "n bytes (1 to 8) come to THE TAPE, the lowest of eight first: how many it has.");
        WritHouse x = new WritHouse();
        // "say 1;", its last byte first in the number
        s.is(x.feed(0x203120796173L, 6), 6);
        s.is(x.feed(0x3b3bL, 1), 7);
        s.is(x.read(0), 0);
        s.is(x.version(0, 10), 1);
        WritHouse y = new WritHouse();
        // the eighth byte is the highest: "say 1 7;"
        s.is(y.feed(0x3b37203120796173L, 8), 8);
        s.is(y.read(0), 0);
        s.got(y.version(0, 2), y.version(0, 11)).are(2, 7);
        // a byte above 127 is one byte
        s.is(y.feed(-1L, 1), 1);
        s.is(y.read(0), -100);
        s.is(y.feed(0xffff20L, 3), 3);
        s.is(y.read(0), -101);

        s.promise(13, "BAD;");
        s.all(-1, y.feed(0, 0), y.feed(0, 9), y.feed(0, -1), y.feed(0, MIN), y.feed(0, MAX));
        s.is(y.many(11), 0);

        s.promise(13, "FULL: more than 400.");
        for (int i = 0; i < 49; i++) y.feed(0x2020202020202020L, 8);
        s.is(y.feed(0x2020L, 2), 394);
        s.all(-2, y.feed(0, 7), y.feed(0, 8));
        s.is(y.many(11), 394);
        s.is(y.feed(0x3b3120796173L, 6), 400);
        s.all(-2, y.feed(0, 1), y.feed(0, 8));
        s.all(-1, y.feed(0, 0), y.feed(0, 9));
        s.is(y.many(11), 400);
        s.is(y.read(1), 1);
    }

    private void read() {
        s.promise(14, "THE TAPE is the TEXT of a FORM: the number of the VERSION; -100 less its FAULT.");
        WritHouse x = new WritHouse();
        s.got(Due.read(x, 7, "say 1;"), Due.read(x, 0, "say 2;"), Due.read(x, 7, "say 3;")).are(0, 1, 2);
        s.got(x.version(0, 0), x.version(1, 0), x.version(2, 0)).are(7, 0, 7);
        s.got(Due.read(x, 0, ""), Due.read(x, 0, "x"), Due.read(x, 0, "say 1"), Due.read(x, 0, " ".repeat(400))).are(-100, -100, -105, -500);
        // a text with a fault is no version
        s.got(x.many(5), x.force(0, 0)).are(3, 1);
        s.is(Due.read(x, 0, "say 4;"), 3);

        s.promise(14, "BAD: there is no such FORM;");
        s.all(-1, Due.read(x, -1, "say 1;"), Due.read(x, 8, "say 1;"), Due.read(x, MIN, "say 1;"), Due.read(x, MAX, "say 1;"));
        // ahead of a fault, and it uses the tape up
        s.is(Due.read(x, 8, "x"), -1);
        s.got(x.many(5), x.many(11)).are(4, 0);

        s.promise(14, "FULL (behind a FAULT).");
        WritHouse full = new WritHouse();
        for (int v = 0; v < 15; v++) Due.read(full, 0, "say 1;");
        s.is(Due.read(full, 0, "say 1;"), 15);
        s.is(Due.read(full, 0, "say 1;"), -2);
        s.is(Due.read(full, 0, "say x;"), -104);
        s.is(Due.read(full, 0, ""), -100);
        s.is(Due.read(full, 8, "say 1;"), -1);
        s.got(full.many(5), full.many(11), full.force(0, 0), full.version(15, 8)).are(16, 0, 15, -3);
    }

    private void strike() {
        s.promise(15, "A FORM is STRUCK: the VERSION that was in force.");
        WritHouse x = new WritHouse();
        Due.read(x, 0, "say 1;");
        Due.read(x, 7, "say 1;");
        s.got(x.strike(7), x.strike(0)).are(1, 0);
        s.got(x.version(0, 8), x.version(1, 8)).are(0, 0);

        s.promise(15, "BAD: there is no such FORM;");
        s.all(-1, x.strike(-1), x.strike(8), x.strike(MIN), x.strike(MAX));

        s.promise(15, "NONE: it has none in force TODAY.");
        s.all(-3, x.strike(0), x.strike(7), x.strike(3));
        WritHouse y = new WritHouse();
        Due.read(y, 0, "say 1;");
        y.days(5);
        y.strike(0);
        y.days(5);
        // it was in force on an older day only, and stays ended by that
        s.is(y.strike(0), -3);
        s.is(y.version(0, 8), 5);
    }

    private void version() {
        s.promise(16, "Of a VERSION: what = 0 FORM, 1 kind (0 to 6), 2 ITEMS, 3 seals, 4 fee, 5 roll (NONE), 6 due, 7 from which DAY"
            + " in force, 8 from which no more (NONE), 9 WIDTH, 10 + i ITEM i (1001 person, 1002 land, 1003 amount), 30 + i seal i.");
        WritHouse x = new WritHouse();
        x.days(4);
        Due.read(x, 6, "kind warrant;say 9 person land amount;seals 3 0;fee 8;roll 2;due 7;wants fact 1 and fact 2;");
        x.days(4);
        x.strike(6);
        long[] due = {6, 6, 4, 2, 8, 2, 7, 4, 8, 1024, 9, 1001, 1002, 1003};
        for (int what = 0; what < due.length; what++) s.is(x.version(0, what), due[what]);
        s.got(x.version(0, 30), x.version(0, 31)).are(3, 0);
        Due.read(x, 0, "say 1 2 3 4 5 6 7 8 9 10 11 12;seals 1 3 0 2;");
        long[] lacking = {0, 0, 12, 4, 0, -3, 0, 8, -3, 4096};
        for (int what = 0; what < lacking.length; what++) s.is(x.version(1, what), lacking[what]);
        for (int i = 0; i < 12; i++) s.is(x.version(1, 10 + i), i + 1);
        s.got(x.version(1, 30), x.version(1, 31), x.version(1, 32), x.version(1, 33)).are(1, 3, 0, 2);

        s.promise(16, "BAD: there is none such, another what (also no such ITEM, seal).");
        s.all(-1, x.version(-1, 0), x.version(2, 0), x.version(MIN, 0), x.version(MAX, 0));
        s.all(-1, x.version(0, -1), x.version(0, 14), x.version(0, 29), x.version(0, 32), x.version(0, MIN), x.version(0, MAX));
        s.all(-1, x.version(1, 22), x.version(1, 29), x.version(1, 34));
    }

    private void force() {
        s.promise(17, "The VERSION of a FORM that is in force on a DAY.");
        WritHouse x = new WritHouse();
        Due.read(x, 0, "say 1;");
        x.days(1);
        Due.read(x, 0, "say 2;");
        s.got(x.force(0, 0), x.force(0, 1), x.force(0, 3599)).are(0, 1, 1);

        s.promise(17, "BAD: there is no such FORM, DAY;");
        s.all(-1, x.force(-1, 0), x.force(8, 0), x.force(MIN, 0), x.force(MAX, 0));
        s.all(-1, x.force(0, -1), x.force(0, 3600), x.force(0, MIN), x.force(0, MAX), x.force(7, 3600));

        s.promise(17, "NONE.");
        s.all(-3, x.force(7, 0), x.force(1, 3599));
        x.strike(0);
        s.got(x.force(0, 0), x.force(0, 1), x.force(0, 3599)).are(0, -3, -3);
        WritHouse late = new WritHouse();
        late.days(1);
        Due.read(late, 0, "say 1;");
        s.is(late.force(0, 0), -3);
    }
}
