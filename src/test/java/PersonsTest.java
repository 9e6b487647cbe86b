/** Promises 7 to 12: persons, stays, holds. */
public final class PersonsTest {
    private static final Due DUE = new Due();

    public static void main(String[] args) {
        born();
        died();
        poor();
        stays();
        holds();
        of();
        DUE.end("PersonsTest");
    }

    private static void born() {
        WritHouse x = new WritHouse();
        DUE.is(x.person(-1), -1);
        DUE.is(x.person(3600), -1);
        DUE.is(x.many(2), 0);
        DUE.is(x.person(3599), 0);
        for (int i = 1; i < 16; i++) DUE.is(x.person(0), i);
        DUE.is(x.person(0), -2);
        DUE.is(x.person(3600), -1);
        DUE.is(x.many(2), 16);
    }

    private static void died() {
        WritHouse x = new WritHouse();
        DUE.is(x.die(0, 5), -1);
        x.person(10);
        DUE.is(x.die(-1, 10), -1);
        DUE.is(x.die(1, 10), -1);
        DUE.is(x.die(0, -1), -1);
        DUE.is(x.die(0, 3600), -1);
        DUE.is(x.die(0, 9), -1);
        DUE.is(x.of(0, 3599, 6), 1);
        DUE.is(x.die(0, 20), 1);
        DUE.is(x.die(0, 20), -4);
        DUE.is(x.die(0, 21), -4);
        DUE.is(x.die(0, 9), -1);
        DUE.is(x.of(0, 9, 6), 0);
        DUE.is(x.of(0, 10, 6), 1);
        DUE.is(x.of(0, 20, 6), 1);
        DUE.is(x.of(0, 21, 6), 0);
        x.person(10);
        DUE.is(x.die(1, 10), 1);
        DUE.is(x.of(1, 10, 6), 1);
        DUE.is(x.of(1, 11, 6), 0);
    }

    private static void poor() {
        WritHouse x = new WritHouse();
        DUE.is(x.poor(0, true), -1);
        x.person(0);
        x.person(0);
        DUE.is(x.poor(-1, true), -1);
        DUE.is(x.poor(2, true), -1);
        DUE.is(x.poor(0, false), 0);
        DUE.is(x.poor(0, true), 1);
        DUE.is(x.poor(0, true), 0);
        DUE.is(x.poor(1, true), 1);
        DUE.is(x.poor(0, false), 1);
        DUE.is(x.poor(0, false), 0);
    }

    private static void stays() {
        WritHouse x = new WritHouse();
        DUE.is(x.stay(0, 0, 0, 0), -1);
        x.person(0);
        x.person(0);
        DUE.is(x.stay(-1, 0, 0, 0), -1);
        DUE.is(x.stay(2, 0, 0, 0), -1);
        DUE.is(x.stay(0, -1, 0, 0), -1);
        DUE.is(x.stay(0, 10, 0, 0), -1);
        DUE.is(x.stay(0, 0, -1, 0), -1);
        DUE.is(x.stay(0, 0, 3599, 3600), -1);
        DUE.is(x.stay(0, 0, 5, 4), -1);
        DUE.is(x.many(3), 0);
        DUE.is(x.stay(0, 9, 5, 5), 1);
        DUE.is(x.stay(1, 0, 0, 3599), 2);
        for (int i = 3; i <= 32; i++) DUE.is(x.stay(i % 2, 1, 100, 200), i);
        DUE.is(x.stay(0, 0, 0, 0), -2);
        DUE.is(x.stay(0, 0, 1, 0), -1);
        DUE.is(x.many(3), 32);
        DUE.is(x.many(4), 0);
    }

    private static void holds() {
        WritHouse x = new WritHouse();
        DUE.is(x.hold(0, 0, 0, 0), -1);
        x.person(0);
        x.person(0);
        DUE.is(x.hold(-1, 0, 0, 0), -1);
        DUE.is(x.hold(2, 0, 0, 0), -1);
        DUE.is(x.hold(0, -1, 0, 0), -1);
        DUE.is(x.hold(0, 6, 0, 0), -1);
        DUE.is(x.hold(0, 0, -1, 0), -1);
        DUE.is(x.hold(0, 0, 0, 3600), -1);
        DUE.is(x.hold(0, 0, 5, 4), -1);
        DUE.is(x.many(4), 0);
        DUE.is(x.hold(0, 5, 5, 5), 1);
        for (int i = 2; i <= 24; i++) DUE.is(x.hold(i % 2, 1, 0, 3599), i);
        DUE.is(x.hold(0, 0, 0, 0), -2);
        DUE.is(x.hold(0, 6, 0, 0), -1);
        DUE.is(x.many(4), 24);
        DUE.is(x.many(3), 0);
    }

    private static void of() {
        WritHouse x = new WritHouse();
        DUE.is(x.of(0, 0, 6), -1);
        x.person(100);
        x.person(100);
        DUE.is(x.of(-1, 0, 6), -1);
        DUE.is(x.of(2, 0, 6), -1);
        DUE.is(x.of(0, -1, 6), -1);
        DUE.is(x.of(0, 3600, 6), -1);
        for (int what : new int[] {-1, 7, 8, 9, 20, Integer.MAX_VALUE, Integer.MIN_VALUE}) DUE.is(x.of(0, 0, what), -1);
        for (int what = 0; what <= 6; what++) DUE.is(x.of(0, 99, what), 0);
        for (int what = 10; what < 20; what++) DUE.is(x.of(0, 99, what), 2);
        // holds and stays of days on which they are not alive are told, too
        x.hold(0, 3, 50, 60);
        DUE.is(x.of(0, 49, 3), 0);
        DUE.is(x.of(0, 50, 3), 1);
        DUE.is(x.of(0, 60, 3), 1);
        DUE.is(x.of(0, 61, 3), 0);
        DUE.is(x.of(0, 55, 2), 0);
        DUE.is(x.of(1, 55, 3), 0);
        x.stay(0, 4, 50, 60);
        x.stay(0, 5, 60, 70);
        DUE.is(x.of(0, 49, 14), 2);
        DUE.is(x.of(0, 50, 14), 1);
        DUE.is(x.of(0, 59, 15), 0);
        DUE.is(x.of(0, 60, 14), 1);
        DUE.is(x.of(0, 60, 15), 1);
        DUE.is(x.of(0, 60, 16), 0);
        DUE.is(x.of(0, 61, 14), 0);
        DUE.is(x.of(0, 70, 15), 1);
        DUE.is(x.of(0, 71, 15), 2);
        DUE.is(x.of(1, 60, 14), 2);
    }
}
