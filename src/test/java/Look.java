import java.util.ArrayList;
import java.util.List;

/** What an object answers to questions all round, so that two of them can be compared. It asks fewer than 400. */
final class Look {
    private final WritHouse x;
    private final List<Integer> seen = new ArrayList<>();

    private Look(WritHouse x) {
        this.x = x;
    }

    /** At all that keep() keeps. */
    static List<Integer> atKept(WritHouse x) {
        Look look = new Look(x);
        look.atCounts(0, 1, 2, 3, 4, 5, 6, 7, 9, 10, 13, 14);
        look.atDays();
        look.atPersons();
        look.atForms();
        look.atLetters();
        look.atSealsAndRolls();
        look.atTheWeek();
        return look.seen;
    }

    /** At what it does not keep: THE TAPE, ROWS, SHEETS, SHELVES, THE TRACE. */
    static List<Integer> atHost(WritHouse x) {
        Look look = new Look(x);
        look.atCounts(8, 11, 12);
        for (int i = 0; i < 3; i++) look.see(x.row(i, 0), x.row(i, 1), x.trace(i));
        for (int n = 0; n < 4; n++) {
            look.see(x.item(n, 0, 0), x.item(n, 2, 0), x.item(n, 2, 1), x.item(n, 2, 2));
            look.see(x.taken(n, 0), x.taken(n, 3), x.taken(n, 10), x.taken(n, 12));
        }
        return look.seen;
    }

    static List<Integer> atAll(WritHouse x) {
        List<Integer> all = new ArrayList<>(atHost(x));
        all.addAll(atKept(x));
        return all;
    }

    private void see(int... answers) {
        for (int answer : answers) seen.add(answer);
    }

    private void atCounts(int... whats) {
        for (int what : whats) see(x.many(what));
    }

    private void atDays() {
        for (int day : new int[] {0, 300, 368, 369, 459, 460, 500, 3599}) see(x.year(day, 0), x.year(day, 1));
    }

    private void atPersons() {
        for (int p = 0; p < 3; p++) {
            for (int day : new int[] {0, 10, 20}) see(x.of(p, day, 0), x.of(p, day, 1), x.of(p, day, 6), x.of(p, day, 11), x.of(p, day, 12));
        }
    }

    private void atForms() {
        for (int form = 0; form < 3; form++) see(x.force(form, 0), x.force(form, 10), x.force(form, 20));
        for (int v = 0; v < 3; v++) {
            for (int what = 0; what <= 11; what++) see(x.version(v, what));
            see(x.fits(v, 0), x.fits(v, 1));
        }
    }

    private void atLetters() {
        for (int l = 0; l < 4; l++) {
            for (int what = 0; what <= 12; what++) see(x.letterOf(l, what));
            for (int i = 0; i < 5; i++) see(x.word(l, i));
            see(x.isVoid(l), x.why(l, 9), x.why(l, 12), x.why(l, 20), x.could(l, 0), x.could(l, 1), x.returned(l, 20), x.differ(l, 0));
        }
    }

    private void atSealsAndRolls() {
        for (int roll = 0; roll < 3; roll++) {
            for (int what : new int[] {0, 1, 2, 3, 4, 10, 11}) see(x.roll(roll, what));
        }
        for (int what = 0; what < 3; what++) see(x.hamper(0, what));
        for (int seal = 0; seal < 8; seal++) see(x.claim(0, 10, 0, seal, 1, 0));
    }

    private void atTheWeek() {
        for (int what : new int[] {0, 1, 2, 10, 11, 12}) see(x.plan(2, what));
    }
}
