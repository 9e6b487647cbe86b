/** Promises 13 to 17: the tape, texts of forms, versions. */
public final class FormsTest {
    private static final Due DUE = new Due();

    public static void main(String[] args) {
        tape();
        places();
        parts();
        faultsOfParts();
        faultsOfNumbers();
        faultsOfConditions();
        limits();
        widths();
        versions();
        fullOfVersions();
        DUE.end("FormsTest");
    }

    /** The fault of a text read by a new object, or -1. */
    private static int fault(String text) {
        int answer = Due.read(new WritHouse(), 0, text);
        return answer == 0 ? -1 : -100 - answer;
    }

    private static int width(String cond) {
        WritHouse x = new WritHouse();
        Due.read(x, 0, "say 1;wants " + cond + ";");
        return x.version(0, 9);
    }

    private static void tape() {
        WritHouse x = new WritHouse();
        DUE.is(x.feed(0, 0), -1);
        DUE.is(x.feed(0, 9), -1);
        DUE.is(x.feed(0, -1), -1);
        DUE.is(x.many(11), 0);
        DUE.is(x.feed(-1L, 1), 1);
        DUE.is(x.feed(0, 8), 9);
        DUE.is(x.many(11), 9);
        for (int i = 0; i < 48; i++) x.feed(0, 8);
        DUE.is(x.feed(0, 8), -2);
        DUE.is(x.feed(0, 9), -1);
        DUE.is(x.many(11), 393);
        DUE.is(x.feed(0, 7), 400);
        DUE.is(x.feed(0, 1), -2);
        DUE.is(x.read(0), -100);
        DUE.is(x.many(11), 0);
        DUE.is(x.feed(0, 1), 1);
        // a reading that is refused uses it up, too
        DUE.is(x.read(8), -1);
        DUE.is(x.many(11), 0);
        DUE.is(x.feed(0, 1), 1);
        DUE.is(x.read(-1), -1);
        DUE.is(x.many(11), 0);
        // the lowest byte first, and those above n are nothing
        DUE.is(x.feed(0x3b31796173L, 3), 3);
        DUE.is(x.feed(0x7777777777773b31L, 2), 5);
        DUE.is(x.read(0), 0);
        DUE.is(x.version(0, 10), 1);
        // the eighth byte is one of its own
        DUE.is(x.feed(0x3b37203120796173L, 8), 8);
        DUE.is(x.read(1), 1);
        DUE.is(x.version(1, 11), 7);
    }

    private static void places() {
        // blanks where one likes, but not within
        DUE.is(fault("say1;"), -1);
        DUE.is(fault("say1person2;"), -1);
        DUE.is(fault("  say   1  ;   "), -1);
        DUE.is(fault("sa y 1;"), 0);
        DUE.is(fault("say 1 ;fee 1 0 ;"), 13);
        DUE.is(fault("say 1;wants fact0and fact1;"), -1);
        DUE.is(fault("say 1;wants factfact 1;"), 12);
        DUE.is(fault("say 1;\tfee 1;"), 6);
        DUE.is(fault("say 1\n;"), 5);
        DUE.is(fault("Say 1;"), 0);
        DUE.is(fault("say 1;\u0000"), 6);
        DUE.is(fault("say 1;\u00ff"), 6);
        DUE.is(fault("say\u00e9 1;"), 3);
        DUE.is(fault("say -1;"), 4);
        // the end is behind the last blank
        DUE.is(fault(""), 0);
        DUE.is(fault("   "), 3);
        DUE.is(fault("say 1   "), 8);
        DUE.is(fault("fee 1;  "), 8);
        DUE.is(fault("say"), 3);
        DUE.is(fault("say 1; fee"), 10);
    }

    private static void parts() {
        String text = "due 999;roll 2;fee 0;seals 3 0 2 1;wants fact 11;kind warrant;say 0 999 person land amount;";
        WritHouse x = new WritHouse();
        DUE.is(Due.read(x, 7, text), 0);
        int[] told = {7, 6, 5, 4, 0, 2, 999, 0, -3, 2048};
        for (int what = 0; what < told.length; what++) DUE.is(x.version(0, what), told[what]);
        int[] items = {0, 999, 1001, 1002, 1003};
        for (int i = 0; i < items.length; i++) DUE.is(x.version(0, 10 + i), items[i]);
        int[] seals = {3, 0, 2, 1};
        for (int i = 0; i < seals.length; i++) DUE.is(x.version(0, 30 + i), seals[i]);
        for (int what : new int[] {-1, 15, 21, 22, 29, 34, 40, Integer.MIN_VALUE, Integer.MAX_VALUE}) DUE.is(x.version(0, what), -1);
        DUE.is(x.version(-1, 0), -1);
        DUE.is(x.version(1, 0), -1);

        WritHouse bare = new WritHouse();
        bare.days(9);
        DUE.is(Due.read(bare, 0, "say 007;"), 0);
        int[] lacking = {0, 0, 1, 0, 0, -3, 0, 9, -3, 4096, 7};
        for (int what = 0; what < lacking.length; what++) DUE.is(bare.version(0, what), lacking[what]);
        DUE.is(bare.version(0, 11), -1);
        DUE.is(bare.version(0, 30), -1);

        // what an earlier text told is nothing to the next one
        WritHouse x2 = new WritHouse();
        DUE.is(Due.read(x2, 0, text), 0);
        DUE.is(Due.read(x2, 1, "fee 1;"), -106);
        DUE.is(Due.read(x2, 1, "say 7;"), 1);
        for (int what = 1; what < lacking.length; what++) {
            if (what != 7) DUE.is(x2.version(1, what), lacking[what]);
        }
        // nor what was read ahead of a fault
        DUE.is(Due.read(x2, 2, "kind writ;fee 9;due 8;roll 1;seals 1;wants fact 1;say 1 2 3 4;x"), -162);
        DUE.is(Due.read(x2, 2, "say 7;"), 2);
        for (int what = 1; what < lacking.length; what++) {
            if (what != 7) DUE.is(x2.version(2, what), lacking[what]);
        }

        String[] kinds = {"letter", "close", "patent", "charter", "", "writ", "warrant"};
        for (int k = 0; k < kinds.length; k++) {
            if (k == 4) continue;
            WritHouse one = new WritHouse();
            DUE.is(Due.read(one, 0, "kind " + kinds[k] + ";say 1;"), 0);
            DUE.is(one.version(0, 1), k);
        }
    }

    private static void faultsOfParts() {
        DUE.is(fault("say 1;say 2;"), 6);
        DUE.is(fault("kind writ;kind writ;say 1;"), 10);
        DUE.is(fault("say 1;wants fact 1;wants fact 1;"), 19);
        DUE.is(fault("say 1;seals 1;seals 2;"), 14);
        DUE.is(fault("say 1;fee 1;fee 1;"), 12);
        DUE.is(fault("say 1;roll 1;roll 1;"), 13);
        DUE.is(fault("say 1;due 1;due 1;"), 12);
        DUE.is(fault("say 1;fee 1;roll 1;due 1;seals 1;kind writ;wants fact 1;due"), 56);
        DUE.is(fault("fee 1;due 1;"), 12);
        DUE.is(fault("say 1;;"), 6);
        DUE.is(fault(";"), 0);
        DUE.is(fault("1"), 0);
        DUE.is(fault("sayx 1;"), 0);
        DUE.is(fault("sayz 1;"), 0);
        DUE.is(fault("asay 1;"), 0);
        DUE.is(fault("sa 1;"), 0);
        DUE.is(fault("say ;"), 4);
        DUE.is(fault("say writ;"), 4);
        DUE.is(fault("say 1 writ;"), 6);
        DUE.is(fault("say 1 fee 3;"), 6);
        DUE.is(fault("say 1:"), 5);
        DUE.is(fault("say persons;"), 4);
        DUE.is(fault("kind inspected;say 1;"), 5);
        DUE.is(fault("kind ;say 1;"), 5);
        DUE.is(fault("kind 1;say 1;"), 5);
        DUE.is(fault("kind letters;say 1;"), 5);
        DUE.is(fault("kind writ close;say 1;"), 10);
        DUE.is(fault("seals ;say 1;"), 6);
        DUE.is(fault("seals 1 2 1;say 1;"), 10);
        DUE.is(fault("seals 0 1 2 3 0;say 1;"), 14);
        DUE.is(fault("seals 4;say 1;"), 6);
        DUE.is(fault("seals 1 4;say 1;"), 8);
        DUE.is(fault("seals one;say 1;"), 6);
        DUE.is(fault("fee ;say 1;"), 4);
        DUE.is(fault("fee 1 2;say 1;"), 6);
        DUE.is(fault("fee x;say 1;"), 4);
        DUE.is(fault("roll 3;say 1;"), 5);
        DUE.is(fault("roll;say 1;"), 4);
        DUE.is(fault("due land;say 1;"), 4);
    }

    private static void faultsOfNumbers() {
        DUE.is(fault("say 000;"), -1);
        DUE.is(fault("say 0000;"), 4);
        DUE.is(fault("say 1000;"), 4);
        DUE.is(fault("say 1 0001;"), 6);
        DUE.is(fault("say 1;fee 0999;"), 10);
        DUE.is(fault("say 1;due 1000;"), 10);
        DUE.is(fault("say 1;due 0;fee 999;"), -1);
        DUE.is(fault("say 1;due 999;fee 0;roll 0;"), -1);
        DUE.is(fault("say 1;roll 002;"), -1);
        DUE.is(fault("say 1;seals 003;"), -1);
        DUE.is(fault("say 1;seals 1 001;"), 14);
        DUE.is(fault("say 1;wants fact 011;"), -1);
        DUE.is(fault("say 1;wants fact 0011;"), 17);
        DUE.is(fault("say 99999999999999999999999999999;"), 4);
        DUE.is(fault("say 4294967297;"), 4);
    }

    private static void faultsOfConditions() {
        DUE.is(fault("say 1;wants ;"), 12);
        DUE.is(fault("say 1;wants fact;"), 16);
        DUE.is(fault("say 1;wants fact 12;"), 17);
        DUE.is(fault("say 1;wants 1;"), 12);
        DUE.is(fault("say 1;wants fact 1 fact 2;"), 19);
        DUE.is(fault("say 1;wants fact 1 not fact 2;"), 19);
        DUE.is(fault("say 1;wants fact 1 and;"), 22);
        DUE.is(fault("say 1;wants fact 1 and or fact 2;"), 23);
        DUE.is(fault("say 1;wants fact 1 or;"), 21);
        DUE.is(fault("say 1;wants fact 1 unless;"), 25);
        DUE.is(fault("say 1;wants unless fact 1;"), 12);
        DUE.is(fault("say 1;wants not;"), 15);
        DUE.is(fault("say 1;wants not not not fact 1;"), -1);
        DUE.is(fault("say 1;wants fact 1 unless fact 2 unless fact 3;"), 33);
        DUE.is(fault("say 1;wants (fact 1 unless fact 2) unless fact 3;"), -1);
        DUE.is(fault("say 1;wants fact 1 unless (fact 2 unless fact 3);"), -1);
        DUE.is(fault("say 1;wants (fact 1;"), 19);
        DUE.is(fault("say 1;wants (fact 1"), 19);
        DUE.is(fault("say 1;wants fact 1);"), 18);
        DUE.is(fault("say 1;wants ();"), 13);
        DUE.is(fault("say 1;wants most 13(1);"), 17);
        DUE.is(fault("say 1;wants most 12(1);"), -1);
        DUE.is(fault("say 1;wants most (1);"), 17);
        DUE.is(fault("say 1;wants most 1 1;"), 19);
        DUE.is(fault("say 1;wants most 1();"), 19);
        DUE.is(fault("say 1;wants most 1(12);"), 19);
        DUE.is(fault("say 1;wants most 1(1 fact 2);"), 21);
        DUE.is(fault("say 1;wants most 1(1;"), 20);
        DUE.is(fault("say 1;wants most 1(1) 2;"), 22);
    }

    private static void limits() {
        DUE.is(fault("say 1 2 3 4 5 6 7 8 9 0 1 2;"), -1);
        DUE.is(fault("say 1 2 3 4 5 6 7 8 9 0 1 2 3;"), 28);
        DUE.is(fault("say 1 2 3 4 5 6 7 8 9 0 1 2 person;"), 28);
        DUE.is(fault("say 1;wants most 1(0 1 2 3 4 5 6 7 8 9 10 11);"), -1);
        DUE.is(fault("say 1;wants most 1(0 0 0 0 0 0 0 0 0 0 0 0 0);"), 43);
        DUE.is(fault("say 1;wants (((((fact 1)))));"), -1);
        DUE.is(fault("say 1;wants ((((((fact 1))))));"), 17);
        DUE.is(fault("say 1;wants not (not (not (not (not (not (fact 1))))));"), 41);
        // those that are closed again do not count, nor those of most
        DUE.is(fault("say 1;wants (((((fact 1)))))and(((((fact 2)))));"), -1);
        DUE.is(fault("say 1;wants (((((most 1(1))))));"), -1);
        DUE.is(fault("say 1;wants (((((fact 1) or fact 2) or fact 3) and (fact 4)))and((fact 5));"), -1);
        // as deep and as long as can be: three waiting in each
        String deep = "fact 1 unless fact 2 or fact 3 and ";
        DUE.is(fault("say 1;wants " + (deep + "(").repeat(5) + deep + "fact 4" + ")".repeat(5) + ";"), -1);
        String longest = "say 1;wants fact 0" + "or fact 1".repeat(42) + ";";
        DUE.is(longest.length(), 397);
        DUE.is(fault(longest), -1);
        DUE.is(fault("say 1;wants " + "not ".repeat(95) + "fact 1;"), -1);
    }

    private static void widths() {
        for (int f = 0; f < 12; f++) DUE.is(width("fact " + f), 2048);
        DUE.is(width("not fact 3"), 2048);
        DUE.is(width("not not fact 3 and fact 4"), 1024);
        DUE.is(width("not not not fact 3 and fact 3"), 0);
        DUE.is(width("fact 0 or not fact 0"), 4096);
        DUE.is(width("fact 0 and not fact 0"), 0);
        DUE.is(width("fact 0 and fact 6"), 1024);
        DUE.is(width("fact 5 or fact 6"), 3072);
        // and goes before or, or before unless
        DUE.is(width("fact 0 or fact 1 and fact 2"), 2048 + 512);
        DUE.is(width("fact 0 and fact 1 or fact 2"), 2048 + 512);
        DUE.is(width("(fact 0 or fact 1) and fact 2"), 1536);
        DUE.is(width("fact 0 unless fact 1"), 1024);
        DUE.is(width("fact 0 unless fact 1 or fact 2"), 512);
        DUE.is(width("fact 0 or fact 1 unless fact 2"), 1536);
        DUE.is(width("fact 0 or (fact 1 unless fact 2)"), 2560);
        DUE.is(width("not (fact 0 unless fact 1)"), 3072);
        DUE.is(width("not fact 0 unless fact 0"), 2048);
        DUE.is(width("most 0(5)"), 4096);
        DUE.is(width("most 1(5)"), 2048);
        DUE.is(width("most 2(5)"), 0);
        DUE.is(width("most 2(5 5)"), 2048);
        DUE.is(width("most 3(1 2 2 2)"), 2048);
        DUE.is(width("most 4(1 2 2 2)"), 1024);
        DUE.is(width("most 12(0 1 2 3 4 5 6 7 8 9 10 11)"), 1);
        DUE.is(width("most 11(0 1 2 3 4 5 6 7 8 9 10 11)"), 13);
        DUE.is(width("not most 2(0 1 2 3 4 5 6 7 8 9 10 11)"), 13);
        DUE.is(width("most 12(7 7 7 7 7 7 7 7 7 7 7 7)"), 2048);
        DUE.is(width("most 8(7 7 7 7 7 7 7 7 3 3 3 3)"), 2048);
        DUE.is(width("most 1(0 1) and most 1(10 11)"), 2304);
    }

    private static void versions() {
        WritHouse x = new WritHouse();
        DUE.is(x.force(-1, 0), -1);
        DUE.is(x.force(8, 0), -1);
        DUE.is(x.force(0, -1), -1);
        DUE.is(x.force(0, 3600), -1);
        DUE.is(x.strike(-1), -1);
        DUE.is(x.strike(8), -1);
        DUE.is(x.strike(0), -3);
        x.days(10);
        DUE.is(Due.read(x, 0, "say 1;"), 0);
        DUE.is(Due.read(x, 1, "say 2;"), 1);
        DUE.is(x.force(0, 9), -3);
        DUE.is(x.force(0, 10), 0);
        DUE.is(x.force(0, 3599), 0);
        DUE.is(x.force(2, 10), -3);
        x.days(10);
        // a fault leaves what is in force as it was
        DUE.is(Due.read(x, 0, "say;"), -103);
        DUE.is(x.version(0, 8), -3);
        DUE.is(Due.read(x, 0, "say 3;"), 2);
        DUE.is(x.version(0, 8), 20);
        DUE.is(x.version(2, 7), 20);
        DUE.is(x.version(1, 8), -3);
        DUE.is(x.force(0, 19), 0);
        DUE.is(x.force(0, 20), 2);
        // read anew on the same day: the one ahead was never in force
        DUE.is(Due.read(x, 0, "say 4;"), 3);
        DUE.is(x.version(2, 7), 20);
        DUE.is(x.version(2, 8), 20);
        DUE.is(x.force(0, 20), 3);
        DUE.is(x.force(0, 19), 0);
        x.days(5);
        DUE.is(x.strike(0), 3);
        DUE.is(x.strike(0), -3);
        DUE.is(x.version(3, 8), 25);
        DUE.is(x.force(0, 24), 3);
        DUE.is(x.force(0, 25), -3);
        x.days(5);
        // read anew behind that: the end by the strike stays
        DUE.is(Due.read(x, 0, "say 5;"), 4);
        DUE.is(x.version(3, 8), 25);
        DUE.is(x.force(0, 29), -3);
        DUE.is(x.force(0, 30), 4);
        DUE.is(x.force(1, 30), 1);
        DUE.is(x.many(5), 5);
    }

    private static void fullOfVersions() {
        WritHouse x = new WritHouse();
        for (int v = 0; v < 16; v++) DUE.is(Due.read(x, v % 8, "say 1;"), v);
        x.days(3);
        DUE.is(Due.read(x, 0, "say 1;"), -2);
        DUE.is(x.many(11), 0);
        DUE.is(Due.read(x, 0, "say x;"), -104);
        DUE.is(Due.read(x, 8, "say x;"), -1);
        DUE.is(x.many(5), 16);
        DUE.is(x.version(8, 8), -3);
        DUE.is(x.force(0, 3), 8);
        DUE.is(x.version(15, 7), 0);
        DUE.is(x.version(16, 7), -1);
    }
}
