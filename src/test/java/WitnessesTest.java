/** Promises 41 to 44: witnesses and claims. */
public final class WitnessesTest {
    private static final Due DUE = new Due();

    public static void main(String[] args) {
        witnesses();
        places();
        could();
        forged();
        byTheCrack();
        byTheYear();
        found();
        DUE.end("WitnessesTest");
    }

    private static WritHouse house(String text) {
        WritHouse x = new WritHouse();
        x.person(0);
        x.person(0);
        x.petition(0, 0);
        DUE.is(Due.read(x, 0, text), 0);
        return x;
    }

    private static void witnesses() {
        WritHouse x = house("kind charter;say 1;seals 0;");
        DUE.is(Due.read(x, 1, "kind patent;say 1;"), 1);
        x.hold(0, 0, 0, 3599);
        x.letter(0, 0, 0);
        x.letter(0, 1, 0);
        DUE.is(x.witness(-1, 0, 0), -1);
        DUE.is(x.witness(2, 0, 0), -1);
        DUE.is(x.witness(0, -1, 0), -1);
        DUE.is(x.witness(0, 2, 0), -1);
        DUE.is(x.witness(0, 0, -1), -1);
        DUE.is(x.witness(0, 0, 7), -1);
        DUE.is(x.witness(1, 0, 0), -4);
        DUE.is(x.witness(1, 0, 7), -1);
        DUE.is(x.could(0, 0), -1);
        DUE.is(x.witness(0, 0, 6), 1);
        DUE.is(x.witness(0, 0, 0), 2);
        // a seal or what is set in does not matter
        x.seal(0, 0);
        DUE.is(x.witness(0, 1, 5), 3);
        x.letter(0, 0, 0);
        x.inspect(2, 1);
        DUE.is(x.witness(2, 1, 5), 1);
        DUE.is(x.witness(0, 1, 5), 4);
        DUE.is(x.witness(0, 1, 5), -2);
        DUE.is(x.witness(0, 1, 7), -1);
        DUE.is(x.could(0, 3), 2);
        DUE.is(x.could(0, 4), -1);
        DUE.is(x.could(0, -1), -1);
        DUE.is(x.could(3, 0), -1);
        DUE.is(x.could(-1, 0), -1);
        DUE.is(x.could(2, 1), -1);
    }

    private static void places() {
        WritHouse x = house("say 1;");
        DUE.is(x.place(0, 0), -1);
        x.letter(0, 0, 0);
        DUE.is(x.place(-1, 0), -1);
        DUE.is(x.place(1, 0), -1);
        DUE.is(x.place(0, -1), -1);
        DUE.is(x.place(0, 10), -1);
        DUE.is(x.place(0, 9), 0);
        DUE.is(x.place(0, 4), 9);
        DUE.is(x.place(0, 4), 4);
        x.letter(0, 0, 0);
        DUE.is(x.place(1, 4), 0);
    }

    private static void could() {
        WritHouse x = house("kind charter;say 1;");
        x.days(10);
        x.letter(0, 0, 0);
        x.person(11);
        x.witness(0, 1, 3);
        x.witness(0, 1, 6);
        x.witness(0, 2, 3);
        DUE.is(x.could(0, 0), 2);
        DUE.is(x.could(0, 1), 4);
        DUE.is(x.could(0, 2), 1);
        x.hold(1, 3, 0, 9);
        DUE.is(x.could(0, 0), 2);
        x.hold(1, 3, 10, 10);
        DUE.is(x.could(0, 0), 4);
        x.stay(1, 5, 0, 9);
        DUE.is(x.could(0, 0), 4);
        x.stay(1, 5, 10, 12);
        DUE.is(x.could(0, 0), 3);
        DUE.is(x.could(0, 1), 3);
        x.place(0, 5);
        DUE.is(x.could(0, 0), 0);
        DUE.is(x.could(0, 1), 0);
        x.place(0, 0);
        x.stay(1, 0, 10, 10);
        DUE.is(x.could(0, 0), 0);
        x.die(1, 10);
        DUE.is(x.could(0, 0), 0);
        WritHouse y = house("kind charter;say 1;");
        y.days(10);
        y.letter(0, 0, 0);
        y.witness(0, 1, 3);
        y.die(1, 9);
        // the first one told: not alive goes before not in office
        DUE.is(y.could(0, 0), 1);
    }

    private static void isClaim(WritHouse x, int[] claim, int... due) {
        for (int what = 0; what < 4; what++) {
            DUE.is(x.claim(claim[0], claim[1], claim[2], claim[3], claim[4], what), due[what]);
        }
    }

    private static void forged() {
        WritHouse x = house("say 1;");
        x.king(0, false);
        DUE.is(x.claim(-1, 0, 0, 0, 1, 0), -1);
        DUE.is(x.claim(8, 0, 0, 0, 1, 0), -1);
        DUE.is(x.claim(0, -1, 0, 0, 1, 0), -1);
        DUE.is(x.claim(0, 3600, 0, 0, 1, 0), -1);
        DUE.is(x.claim(0, 0, -1, 0, 1, 0), -1);
        DUE.is(x.claim(0, 0, 2, 0, 1, 0), -1);
        DUE.is(x.claim(0, 0, 0, -1, 1, 0), -1);
        DUE.is(x.claim(0, 0, 0, 8, 1, 0), -1);
        DUE.is(x.claim(0, 0, 0, 0, 0, 0), -1);
        DUE.is(x.claim(0, 0, 0, 0, 1, -1), -1);
        DUE.is(x.claim(0, 0, 0, 0, 1, 4), -1);
        isClaim(x, new int[] {0, 0, 0, 0, 1}, 0, -3, -3, 0);
        isClaim(x, new int[] {5, 7, 0, 0, 1}, 1, 5, 7, 0);
        // the first of all that are so
        x.person(20);
        isClaim(x, new int[] {5, 7, 2, 4, 9}, 1, 5, 7, 0);
        isClaim(x, new int[] {0, 7, 2, 4, 9}, 2, 2, 7, 0);
        isClaim(x, new int[] {0, 20, 2, 4, 9}, 3, 0, -1, 0);
        isClaim(x, new int[] {0, 20, 2, 0, 9}, 4, 9, 1, 0);
        isClaim(x, new int[] {0, 20, 2, 0, 1}, 0, -3, -3, 0);
        x.die(2, 30);
        isClaim(x, new int[] {0, 30, 2, 0, 1}, 0, -3, -3, 0);
        isClaim(x, new int[] {0, 31, 2, 0, 1}, 2, 2, 31, 0);
        x.days(5);
        x.strike(0);
        isClaim(x, new int[] {0, 4, 0, 0, 1}, 0, -3, -3, 0);
        isClaim(x, new int[] {0, 5, 0, 0, 1}, 1, 0, 5, 0);
    }

    private static void byTheCrack() {
        WritHouse x = house("say 1;");
        x.king(0, false);
        x.crack(3, 50);
        isClaim(x, new int[] {0, 49, 0, 3, 1}, 0, -3, -3, 0);
        isClaim(x, new int[] {0, 49, 0, 7, 1}, 3, 3, 50, 0);
        isClaim(x, new int[] {0, 50, 0, 3, 1}, 3, 3, 50, 0);
        isClaim(x, new int[] {0, 50, 0, 7, 1}, 0, -3, -3, 0);
        isClaim(x, new int[] {0, 51, 0, 7, 1}, 0, -3, -3, 0);
        isClaim(x, new int[] {0, 51, 0, 2, 1}, 0, -3, -3, 0);
        isClaim(x, new int[] {0, 51, 0, 6, 1}, 3, 2, -1, 0);
    }

    private static void byTheYear() {
        WritHouse x = house("say 1;");
        isClaim(x, new int[] {0, 5, 0, 0, 1}, 4, 1, -1, 0);
        x.king(10, true);
        isClaim(x, new int[] {0, 9, 0, 0, 1}, 4, 1, -1, 0);
        isClaim(x, new int[] {0, 10, 0, 0, 1}, 0, -3, -3, 0);
        isClaim(x, new int[] {0, 459, 0, 0, 2}, 4, 2, 1, 0);
        isClaim(x, new int[] {0, 460, 0, 0, 2}, 0, -3, -3, 0);
        isClaim(x, new int[] {0, 460, 0, 0, Integer.MAX_VALUE}, 4, Integer.MAX_VALUE, 2, 0);
        x.feast(1, 101);
        isClaim(x, new int[] {0, 460, 0, 0, 2}, 4, 2, 1, 0);
    }

    private static void found() {
        WritHouse x = house("say 1;");
        x.king(0, false);
        DUE.is(Due.read(x, 1, "say 2;"), 1);
        x.days(5);
        x.letter(1, 0, 0);
        isClaim(x, new int[] {0, 5, 1, 0, 1}, 0, -3, -3, 1);
        isClaim(x, new int[] {0, 4, 1, 0, 1}, 0, -3, -3, 0);
        isClaim(x, new int[] {0, 5, 0, 0, 1}, 0, -3, -3, 0);
        isClaim(x, new int[] {1, 5, 1, 0, 1}, 0, -3, -3, 0);
        // a forged one is not found
        isClaim(x, new int[] {0, 5, 1, 0, 2}, 4, 2, 1, 0);
        // of another version of the form, read anew on the day of writing
        DUE.is(Due.read(x, 0, "say 3;"), 2);
        isClaim(x, new int[] {0, 5, 1, 0, 1}, 0, -3, -3, 1);
    }
}
