/** Promises 35 to 40: seals, cracks, fees, rolls. */
public final class SealsTest {
    private static final Due DUE = new Due();

    public static void main(String[] args) {
        sealed();
        whyNot();
        whyFirst();
        cracks();
        hamper();
        entries();
        rollsRight();
        rollsByDays();
        missing();
        DUE.end("SealsTest");
    }

    private static WritHouse house(String... texts) {
        WritHouse x = new WritHouse();
        x.person(0);
        x.person(0);
        x.petition(0, 0);
        x.petition(1, 0);
        for (int form = 0; form < texts.length; form++) DUE.is(Due.read(x, form, texts[form]), form);
        return x;
    }

    private static void sealed() {
        WritHouse x = house("say 5;seals 3 1;");
        x.hold(0, 3, 0, 3599);
        x.hold(1, 1, 20, 3599);
        x.days(10);
        x.letter(0, 0, 0);
        x.days(20);
        DUE.is(x.seal(-1, 10), -1);
        DUE.is(x.seal(1, 10), -1);
        DUE.is(x.seal(0, -1), -1);
        DUE.is(x.seal(0, 31), -1);
        DUE.is(x.seal(0, 9), -4);
        DUE.is(x.letterOf(0, 6), 0);
        DUE.is(x.seal(0, 10), 1);
        DUE.is(x.letterOf(0, 6), 1);
        DUE.is(x.letterOf(0, 7), -3);
        DUE.is(x.seal(0, 19), -4);
        DUE.is(x.seal(0, 30), 2);
        DUE.is(x.letterOf(0, 6), 2);
        DUE.is(x.letterOf(0, 7), 30);
        DUE.is(x.seal(0, 30), -4);
        // both on one day, that of the writing; the second not ahead of the first
        x.letter(0, 0, 0);
        DUE.is(x.seal(1, 30), 1);
        DUE.is(x.seal(1, 30), 2);
        DUE.is(x.letterOf(1, 7), 30);
        x.letter(0, 0, 0);
        x.days(10);
        DUE.is(x.seal(2, 35), 1);
        DUE.is(x.seal(2, 34), -4);
        DUE.is(x.seal(2, 35), 2);
        DUE.is(x.letterOf(2, 7), 35);
        DUE.is(x.many(13), 3);
    }

    private static void whyNot() {
        WritHouse x = house("say land;seals 2;");
        x.days(10);
        x.letter(0, 0, 0);
        DUE.is(x.why(-1, 0), -1);
        DUE.is(x.why(1, 0), -1);
        DUE.is(x.why(0, -1), -1);
        DUE.is(x.why(0, 3600), -1);
        DUE.is(x.why(0, 10), 2);
        x.fill(0, 0, 1);
        DUE.is(x.why(0, 9), 3);
        DUE.is(x.why(0, 10), 4);
        x.hold(0, 1, 0, 3599);
        DUE.is(x.why(0, 10), 4);
        x.hold(0, 2, 15, 20);
        DUE.is(x.why(0, 14), 4);
        DUE.is(x.why(0, 15), 0);
        DUE.is(x.why(0, 20), 0);
        DUE.is(x.why(0, 21), 4);
        x.die(0, 17);
        DUE.is(x.why(0, 17), 0);
        DUE.is(x.why(0, 18), 5);
        // another who holds it, too, and is alive
        x.hold(1, 2, 19, 19);
        DUE.is(x.why(0, 18), 5);
        DUE.is(x.why(0, 19), 0);
        DUE.is(x.why(0, 20), 5);
        // a day to come may be asked, but not sealed on
        DUE.is(x.seal(0, 15), -1);
        x.days(5);
        DUE.is(x.seal(0, 15), 1);
        DUE.is(x.why(0, 15), 1);
        DUE.is(x.why(0, 0), 1);
        // one without seals is done
        WritHouse y = house("say land;");
        y.letter(0, 0, 0);
        DUE.is(y.why(0, 0), 1);
        DUE.is(y.seal(0, 0), -4);
        DUE.is(y.letterOf(0, 7), 0);
        DUE.is(y.letterOf(0, 6), 0);
    }

    private static void whyFirst() {
        WritHouse x = house("say person;seals 0 1;");
        x.hold(0, 0, 0, 3599);
        x.days(10);
        x.letter(0, 0, 0);
        // void goes before the day, the day before the office
        DUE.is(x.why(0, 0), 2);
        x.fill(0, 0, 1);
        DUE.is(x.why(0, 0), 3);
        DUE.is(x.seal(0, 10), 1);
        DUE.is(x.why(0, 9), 3);
        DUE.is(x.why(0, 10), 4);
        // void by a death told later
        x.die(1, 9);
        DUE.is(x.why(0, 10), 2);
        DUE.is(x.seal(0, 10), -4);
    }

    private static void cracks() {
        WritHouse x = new WritHouse();
        DUE.is(x.crack(-1, 0), -1);
        DUE.is(x.crack(4, 0), -1);
        DUE.is(x.crack(0, -1), -1);
        DUE.is(x.crack(0, 3600), -1);
        DUE.is(x.crack(0, 0), 1);
        DUE.is(x.crack(0, 0), -4);
        DUE.is(x.crack(0, 5), -4);
        DUE.is(x.crack(0, 3600), -1);
        DUE.is(x.crack(3, 3599), 1);
    }

    private static void hamper() {
        WritHouse x = house("say 1;fee 30;seals 0;", "say 1;fee 7;", "say 1;");
        x.hold(0, 0, 0, 3599);
        for (int what : new int[] {-1, 3}) DUE.is(x.hamper(0, what), -1);
        DUE.is(x.hamper(-1, 0), -1);
        DUE.is(x.hamper(40, 0), -1);
        x.days(89);
        x.letter(0, 0, 0);
        x.letter(0, 1, 1);
        x.letter(0, 2, 1);
        DUE.is(x.hamper(0, 0), 7);
        x.days(1);
        x.letter(0, 1, 1);
        DUE.is(x.hamper(0, 0), 7);
        DUE.is(x.hamper(1, 0), 7);
        // due in the term of the last seal
        DUE.is(x.seal(0, 90), 1);
        DUE.is(x.hamper(0, 0), 7);
        DUE.is(x.hamper(1, 0), 37);
        DUE.is(x.hamper(1, 1), 37);
        DUE.is(x.hamper(1, 2), 0);
        // poor as they are now
        x.poor(1, true);
        DUE.is(x.hamper(0, 0), 7);
        DUE.is(x.hamper(0, 1), 0);
        DUE.is(x.hamper(0, 2), 7);
        DUE.is(x.hamper(1, 0), 37);
        DUE.is(x.hamper(1, 1), 30);
        DUE.is(x.hamper(1, 2), 7);
        x.poor(0, true);
        DUE.is(x.hamper(1, 2), 37);
        x.poor(1, false);
        DUE.is(x.hamper(1, 1), 7);
        DUE.is(x.hamper(39, 0), 0);
        // it is the person of the petition, not the hand
        x.letter(1, 1, 0);
        DUE.is(x.hamper(1, 2), 37);
        DUE.is(x.hamper(1, 1), 7);
    }

    private static void entries() {
        WritHouse x = house("say 1;");
        DUE.is(x.enter(0, 0), -1);
        x.letter(0, 0, 0);
        x.letter(0, 0, 0);
        DUE.is(x.enter(-1, 0), -1);
        DUE.is(x.enter(3, 0), -1);
        DUE.is(x.enter(0, -1), -1);
        DUE.is(x.enter(0, 2), -1);
        DUE.is(x.many(9), 0);
        DUE.is(x.enter(0, 1), 1);
        DUE.is(x.enter(2, 0), 1);
        DUE.is(x.enter(0, 0), 2);
        DUE.is(x.roll(0, 0), 2);
        DUE.is(x.roll(1, 0), 0);
        DUE.is(x.roll(2, 0), 1);
        DUE.is(x.roll(0, 10), 1);
        DUE.is(x.roll(0, 11), 0);
        DUE.is(x.roll(2, 10), 0);
        DUE.is(x.roll(0, 12), -1);
        DUE.is(x.roll(1, 10), -1);
        for (int what : new int[] {-1, 5, 9, 50, Integer.MAX_VALUE, Integer.MIN_VALUE}) DUE.is(x.roll(0, what), -1);
        DUE.is(x.roll(-1, 0), -1);
        DUE.is(x.roll(3, 0), -1);
        // forty on all rolls together
        for (int e = 2; e <= 38; e++) DUE.is(x.enter(2, 1), e);
        DUE.is(x.enter(1, 0), -2);
        DUE.is(x.enter(2, 0), -2);
        DUE.is(x.enter(2, 5), -1);
        DUE.is(x.many(9), 40);
        DUE.is(x.roll(2, 47), 1);
        DUE.is(x.roll(2, 48), -1);
    }

    private static void rollsRight() {
        WritHouse x = house("say 1;roll 1;", "say 1;", "say 1;roll 1;seals 0;", "say 1;roll 0;");
        DUE.is(x.roll(1, 1), -3);
        DUE.is(x.roll(1, 2), 0);
        for (int l = 0; l < 4; l++) x.letter(0, l, 0);
        // of a version with another roll, or none, or not done: they needn't be on it
        x.enter(1, 0);
        DUE.is(x.roll(1, 1), -3);
        DUE.is(x.roll(1, 2), 0);
        x.enter(1, 2);
        DUE.is(x.roll(1, 1), 1);
        DUE.is(x.roll(1, 2), 1);
        x.hold(0, 0, 0, 3599);
        x.seal(2, 0);
        DUE.is(x.roll(1, 1), -3);
        x.enter(1, 0);
        DUE.is(x.roll(1, 1), 2);
        DUE.is(x.roll(1, 2), 2);
        // the first that is wrong
        x.enter(1, 1);
        DUE.is(x.roll(1, 1), 2);
        DUE.is(x.roll(1, 2), 2);
        x.enter(0, 1);
        DUE.is(x.roll(0, 1), 0);
        DUE.is(x.roll(0, 2), 1);
        x.enter(2, 3);
        DUE.is(x.roll(2, 1), 0);
        DUE.is(x.roll(2, 2), 1);
    }

    private static void rollsByDays() {
        WritHouse x = house("say 1;roll 2;seals 0;");
        x.hold(0, 0, 0, 3599);
        for (int l = 0; l < 4; l++) x.letter(0, 0, 0);
        x.days(10);
        x.seal(0, 5);
        x.seal(1, 5);
        x.seal(2, 4);
        x.seal(3, 6);
        x.enter(2, 1);
        x.enter(2, 0);
        DUE.is(x.roll(2, 1), -3);
        x.enter(2, 3);
        DUE.is(x.roll(2, 1), -3);
        x.enter(2, 2);
        DUE.is(x.roll(2, 1), 3);
        DUE.is(x.roll(2, 2), 3);
        WritHouse y = house("say 1;roll 2;seals 0;");
        y.hold(0, 0, 0, 3599);
        y.letter(0, 0, 0);
        y.letter(0, 0, 0);
        y.days(1);
        y.seal(0, 0);
        y.seal(1, 1);
        y.enter(2, 0);
        y.enter(2, 1);
        y.enter(2, 0);
        // on it already goes before the day
        DUE.is(y.roll(2, 1), 2);
        DUE.is(y.roll(2, 2), 2);
    }

    private static void missing() {
        WritHouse x = house("say 1;roll 1;", "say 1;roll 1;seals 0;", "say 1;roll 0;");
        DUE.is(x.roll(1, 3), 0);
        DUE.is(x.roll(1, 4), -3);
        x.letter(0, 2, 0);
        x.letter(0, 1, 0);
        x.letter(0, 0, 0);
        x.letter(0, 0, 0);
        DUE.is(x.roll(1, 3), 2);
        DUE.is(x.roll(1, 4), 2);
        DUE.is(x.roll(0, 4), 0);
        x.hold(0, 0, 0, 9);
        x.seal(1, 0);
        DUE.is(x.roll(1, 3), 3);
        DUE.is(x.roll(1, 4), 1);
        x.enter(1, 1);
        x.enter(1, 1);
        DUE.is(x.roll(1, 3), 2);
        DUE.is(x.roll(1, 4), 2);
        // an entry on another roll is none on this
        x.enter(0, 2);
        DUE.is(x.roll(1, 4), 2);
        x.enter(1, 2);
        x.enter(1, 3);
        DUE.is(x.roll(1, 3), 0);
        DUE.is(x.roll(1, 4), -3);
        DUE.is(x.roll(0, 3), 1);
        DUE.is(x.roll(2, 3), 0);
    }
}
