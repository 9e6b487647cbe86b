import java.io.ByteArrayInputStream;
import java.io.ByteArrayOutputStream;
import java.io.IOException;
import java.io.ObjectInputStream;
import java.io.ObjectOutputStream;
import java.io.Serializable;
import java.util.ArrayList;
import java.util.List;
import java.util.TreeSet;

/**
 * The document once more, in the slowest and plainest ways and with all of the Java library, so that
 * AgainstNaiveTest has something to compare WritHouse with. It shares no code with it.
 */
final class Naive {
    static final int BAD = -1, FULL = -2, NONE = -3, STATE = -4;

    static final class King implements Serializable {
        private static final long serialVersionUID = 1;
        int begin;
        boolean movable;
    }

    static final class Person implements Serializable {
        private static final long serialVersionUID = 1;
        int born;
        Integer died;
        boolean poor;
        List<int[]> stays = new ArrayList<>();
        List<int[]> holds = new ArrayList<>();

        boolean alive(int day) {
            return born <= day && (died == null || day <= died);
        }

        boolean holdsOffice(int office, int day) {
            return holds.stream().anyMatch(h -> h[0] == office && h[1] <= day && day <= h[2]);
        }

        int near(int place, int day) {
            boolean here = stays.stream().anyMatch(s -> s[0] == place && s[1] <= day && day <= s[2]);
            boolean anywhere = stays.stream().anyMatch(s -> s[1] <= day && day <= s[2]);
            return here ? 1 : anywhere ? 0 : 2;
        }
    }

    interface Cond extends Serializable {
        boolean met(int facts);
    }

    static final class Version implements Serializable {
        private static final long serialVersionUID = 1;
        int form, kind, fee, roll = NONE, due, from;
        Integer until;
        List<Integer> items = new ArrayList<>();
        List<Integer> seals = new ArrayList<>();
        Cond cond = facts -> true;

        boolean inForce(int day) {
            return from <= day && (until == null || day < until);
        }

        int width() {
            int n = 0;
            for (int set = 0; set < 4096; set++) if (cond.met(set)) n++;
            return n;
        }
    }

    static final class Petition implements Serializable {
        private static final long serialVersionUID = 1;
        Person person;
        int facts;
    }

    static class Letter implements Serializable {
        private static final long serialVersionUID = 1;
        int number;
        Version version;
        int versionNumber;
        Petition petition;
        int petitionNumber;
        int hand, day, place;
        List<Integer> words = new ArrayList<>();
        List<Integer> sealDays = new ArrayList<>();
        Letter inner, standsFor;
        Integer back;
        List<int[]> witnesses = new ArrayList<>();

        int kind() {
            return inner != null ? 4 : version.kind;
        }

        Integer done() {
            if (sealDays.size() < version.seals.size()) return null;
            return sealDays.isEmpty() ? Integer.valueOf(day) : sealDays.get(sealDays.size() - 1);
        }

        int own() {
            return version.items.size();
        }

        boolean hangsOn(Letter other) {
            return inner != null && (inner == other || inner.hangsOn(other));
        }

        int returnsBy() {
            int term = (done() + version.due) / 90;
            return Math.min(3599, 90 * (term + 1) - 1);
        }
    }

    static final class State implements Serializable {
        private static final long serialVersionUID = 1;
        int today;
        List<King> kings = new ArrayList<>();
        int[] feasts = {100, 100, 100, 100, 100, 100, 100, 100, 100, 100};
        List<Person> persons = new ArrayList<>();
        int stays, holds;
        List<Version> versions = new ArrayList<>();
        List<Petition> petitions = new ArrayList<>();
        List<Letter> letters = new ArrayList<>();
        List<int[]> entries = new ArrayList<>();
        Integer[] cracks = new Integer[4];
        List<int[]> tasks = new ArrayList<>();
    }

    State s = new State();
    byte[] kept;
    List<Byte> tape = new ArrayList<>();
    List<int[]> rows = new ArrayList<>();
    Object[] sheets = new Object[4];
    Object[] shelves = new Object[4];
    List<Integer> trace = new ArrayList<>();

    static boolean in(int x, int lo, int hi) {
        return lo <= x && x <= hi;
    }

    static boolean day(int d) {
        return in(d, 0, 3599);
    }

    static <T> boolean has(List<T> list, int i) {
        return in(i, 0, list.size() - 1);
    }

    // ---- days, kings

    public int days(int n) {
        if (!in(n, 1, 400)) return BAD;
        if (s.today + n > 3599) return STATE;
        return s.today += n;
    }

    public int king(int day, boolean movable) {
        if (!day(day)) return BAD;
        if (!s.kings.isEmpty() && day <= s.kings.get(s.kings.size() - 1).begin) return STATE;
        if (s.kings.size() == 4) return FULL;
        King k = new King();
        k.begin = day;
        k.movable = movable;
        s.kings.add(k);
        return s.kings.size() - 1;
    }

    public int feast(int year, int date) {
        if (!in(year, 0, 9) || !in(date, 0, 359)) return BAD;
        int was = s.feasts[year];
        s.feasts[year] = date;
        return was;
    }

    /** King and year of each day, found by walking through all days; null where there is no king. */
    int[][] reigns() {
        int[][] reign = new int[3600][];
        int king = -1, year = 0;
        for (int d = 0; d < 3600; d++) {
            boolean begins = king + 1 < s.kings.size() && s.kings.get(king + 1).begin == d;
            if (begins) {
                king++;
                year = 1;
            } else if (king >= 0) {
                King k = s.kings.get(king);
                boolean feast = d % 360 == s.feasts[d / 360] && d / 360 > k.begin / 360;
                if (k.movable ? feast : (d - k.begin) % 360 == 0) year++;
            }
            if (king >= 0) reign[d] = new int[] {king, year};
        }
        return reign;
    }

    List<Integer> daysWith(int king, int year, int date) {
        int[][] reign = reigns();
        List<Integer> found = new ArrayList<>();
        for (int d = 0; d < 3600; d++) {
            if (reign[d] != null && reign[d][0] == king && reign[d][1] == year && d % 360 == date) found.add(d);
        }
        return found;
    }

    public int year(int day, int what) {
        if (!day(day) || !in(what, 0, 2)) return BAD;
        int[] reign = reigns()[day];
        if (reign == null) return NONE;
        if (what < 2) return reign[what];
        return daysWith(reign[0], reign[1], day % 360).size();
    }

    public int day(int king, int year, int date, int k) {
        if (!has(s.kings, king) || !in(date, 0, 359) || year < 1 || k < 0) return BAD;
        List<Integer> found = daysWith(king, year, date);
        return has(found, k) ? found.get(k) : NONE;
    }

    // ---- persons

    public int person(int born) {
        if (!day(born)) return BAD;
        if (s.persons.size() == 16) return FULL;
        Person p = new Person();
        p.born = born;
        s.persons.add(p);
        return s.persons.size() - 1;
    }

    public int die(int person, int day) {
        if (!has(s.persons, person) || !day(day)) return BAD;
        Person p = s.persons.get(person);
        if (day < p.born) return BAD;
        if (p.died != null) return STATE;
        p.died = day;
        return 1;
    }

    public int poor(int person, boolean is) {
        if (!has(s.persons, person)) return BAD;
        Person p = s.persons.get(person);
        int answer = p.poor == is ? 0 : 1;
        p.poor = is;
        return answer;
    }

    public int stay(int person, int place, int first, int last) {
        if (!has(s.persons, person) || !in(place, 0, 9) || !day(first) || !day(last) || last < first) return BAD;
        if (s.stays == 32) return FULL;
        s.persons.get(person).stays.add(new int[] {place, first, last});
        return ++s.stays;
    }

    public int hold(int person, int office, int first, int last) {
        if (!has(s.persons, person) || !in(office, 0, 5) || !day(first) || !day(last) || last < first) return BAD;
        if (s.holds == 24) return FULL;
        s.persons.get(person).holds.add(new int[] {office, first, last});
        return ++s.holds;
    }

    public int of(int person, int day, int what) {
        if (!has(s.persons, person) || !day(day) || !(in(what, 0, 6) || in(what, 10, 19))) return BAD;
        Person p = s.persons.get(person);
        if (what == 6) return p.alive(day) ? 1 : 0;
        if (what < 6) return p.holdsOffice(what, day) ? 1 : 0;
        return p.near(what - 10, day);
    }

    // ---- forms

    public int feed(long eight, int n) {
        if (!in(n, 1, 8)) return BAD;
        if (tape.size() + n > 400) return FULL;
        for (int i = 0; i < n; i++) {
            tape.add((byte) (eight & 255));
            eight >>>= 8;
        }
        return tape.size();
    }

    static final class Fault extends RuntimeException {
        private static final long serialVersionUID = 1;
        final int at;

        Fault(int at) {
            this.at = at;
        }
    }

    /** A text in tokens: each its characters and place; the last is empty, at the end. */
    static final class Text {
        final List<String> tokens = new ArrayList<>();
        final List<Integer> places = new ArrayList<>();
        int i;

        Text(List<Byte> bytes) {
            StringBuilder b = new StringBuilder();
            for (byte x : bytes) b.append((char) (x & 255));
            java.util.regex.Matcher m = java.util.regex.Pattern.compile("[a-z]+|[0-9]+|[^ ]", java.util.regex.Pattern.DOTALL).matcher(b);
            while (m.find()) {
                tokens.add(m.group());
                places.add(m.start());
            }
            tokens.add("");
            places.add(b.length());
        }

        String now() {
            return tokens.get(i);
        }

        Fault fault() {
            return new Fault(places.get(i));
        }

        boolean take(String t) {
            if (!now().equals(t)) return false;
            i++;
            return true;
        }

        void need(String t) {
            if (!take(t)) throw fault();
        }

        boolean isNumber() {
            return now().matches("[0-9]+");
        }

        int number(int most) {
            if (!now().matches("[0-9]{1,3}") || Integer.parseInt(now()) > most) throw fault();
            return Integer.parseInt(tokens.get(i++));
        }

        Version version() {
            Version v = new Version();
            TreeSet<String> told = new TreeSet<>();
            while (!now().isEmpty()) {
                String part = now();
                if (!told.add(part)) throw fault();
                switch (part) {
                    case "kind" -> {
                        i++;
                        int k = List.of("letter", "close", "patent", "charter", "", "writ", "warrant").indexOf(now());
                        if (k < 0 || now().isEmpty()) throw fault();
                        v.kind = k;
                        i++;
                    }
                    case "say" -> {
                        i++;
                        do {
                            if (v.items.size() == 12) throw fault();
                            if (take("person")) v.items.add(1001);
                            else if (take("land")) v.items.add(1002);
                            else if (take("amount")) v.items.add(1003);
                            else v.items.add(number(999));
                        } while (!now().equals(";"));
                    }
                    case "wants" -> {
                        i++;
                        v.cond = cond(0);
                    }
                    case "seals" -> {
                        i++;
                        do {
                            Fault here = fault();
                            int seal = number(3);
                            if (v.seals.contains(seal)) throw here;
                            v.seals.add(seal);
                        } while (!now().equals(";"));
                    }
                    case "fee" -> {
                        i++;
                        v.fee = number(999);
                    }
                    case "due" -> {
                        i++;
                        v.due = number(999);
                    }
                    case "roll" -> {
                        i++;
                        v.roll = number(2);
                    }
                    default -> throw fault();
                }
                need(";");
            }
            if (v.items.isEmpty()) throw fault();
            return v;
        }

        Cond cond(int open) {
            Cond a = any(open);
            if (!take("unless")) return a;
            Cond b = any(open);
            return f -> a.met(f) && !b.met(f);
        }

        Cond any(int open) {
            Cond a = all(open);
            while (take("or")) {
                Cond left = a, right = all(open);
                a = f -> left.met(f) || right.met(f);
            }
            return a;
        }

        Cond all(int open) {
            Cond a = one(open);
            while (take("and")) {
                Cond left = a, right = one(open);
                a = f -> left.met(f) && right.met(f);
            }
            return a;
        }

        Cond one(int open) {
            if (take("not")) {
                Cond a = one(open);
                return f -> !a.met(f);
            }
            if (take("fact")) {
                int fact = number(11);
                return f -> (f >> fact & 1) == 1;
            }
            if (take("most")) {
                int n = number(12);
                List<Integer> of = new ArrayList<>();
                need("(");
                do {
                    if (of.size() == 12) throw fault();
                    of.add(number(11));
                } while (!take(")"));
                return (Cond) f -> of.stream().filter(x -> (f >> x & 1) == 1).count() >= n;
            }
            if (open == 5) throw fault();
            need("(");
            Cond a = cond(open + 1);
            need(")");
            return a;
        }
    }

    public int read(int form) {
        List<Byte> bytes = tape;
        tape = new ArrayList<>();
        if (!in(form, 0, 7)) return BAD;
        Version v;
        try {
            v = new Text(bytes).version();
        } catch (Fault f) {
            return -100 - f.at;
        }
        if (s.versions.size() == 16) return FULL;
        for (Version old : s.versions) {
            if (old.form == form && old.until == null) old.until = s.today;
        }
        v.form = form;
        v.from = s.today;
        s.versions.add(v);
        return s.versions.size() - 1;
    }

    public int strike(int form) {
        if (!in(form, 0, 7)) return BAD;
        int v = force(form, s.today);
        if (v >= 0) s.versions.get(v).until = s.today;
        return v;
    }

    public int version(int v, int what) {
        if (!has(s.versions, v)) return BAD;
        Version x = s.versions.get(v);
        if (what >= 30) return has(x.seals, what - 30) ? x.seals.get(what - 30) : BAD;
        if (what >= 10) return has(x.items, what - 10) ? x.items.get(what - 10) : BAD;
        if (what < 0) return BAD;
        int until = x.until == null ? NONE : x.until;
        int[] all = {x.form, x.kind, x.items.size(), x.seals.size(), x.fee, x.roll, x.due, x.from, until, x.width()};
        return all[what];
    }

    public int force(int form, int day) {
        if (!in(form, 0, 7) || !day(day)) return BAD;
        for (Version v : s.versions) if (v.form == form && v.inForce(day)) return s.versions.indexOf(v);
        return NONE;
    }

    // ---- petitions

    public int petition(int person, int facts) {
        if (!has(s.persons, person) || !in(facts, 0, 4095)) return BAD;
        if (s.petitions.size() == 12) return FULL;
        Petition p = new Petition();
        p.person = s.persons.get(person);
        p.facts = facts;
        s.petitions.add(p);
        return s.petitions.size() - 1;
    }

    public int fits(int v, int petition) {
        if (!has(s.versions, v) || !has(s.petitions, petition)) return BAD;
        return s.versions.get(v).cond.met(s.petitions.get(petition).facts) ? 1 : 0;
    }

    public int fit(int petition, int day) {
        if (!has(s.petitions, petition) || !day(day)) return BAD;
        int facts = s.petitions.get(petition).facts;
        return s.versions.stream().filter(v -> v.inForce(day) && v.cond.met(facts))
            .min((a, b) -> a.width() != b.width() ? a.width() - b.width()
                : s.versions.indexOf(a) - s.versions.indexOf(b))
            .map(v -> s.versions.indexOf(v)).orElse(NONE);
    }

    public int lack(int petition, int day) {
        if (!has(s.petitions, petition) || !day(day)) return BAD;
        int facts = s.petitions.get(petition).facts;
        for (int n = 0; n <= 12; n++) {
            for (int more = 0; more < 4096; more++) {
                if (Integer.bitCount(more) != n || (more & facts) != 0) continue;
                int all = more + facts;
                if (s.versions.stream().anyMatch(v -> v.inForce(day) && v.cond.met(all))) return more;
            }
        }
        return NONE;
    }

    List<int[]> rightRows(int petition, int day) {
        int facts = s.petitions.get(petition).facts;
        List<int[]> right = new ArrayList<>();
        for (int i = 0; i < s.versions.size(); i++) {
            Version v = s.versions.get(i);
            if (!v.inForce(day) || v.cond.met(facts)) continue;
            int bar = -1;
            for (int f = 11; f >= 0; f--) if (v.cond.met(facts ^ (1 << f))) bar = f;
            right.add(new int[] {i, bar});
        }
        return right;
    }

    public int prove(int petition, int day) {
        if (!has(s.petitions, petition) || !day(day)) return BAD;
        rows = rightRows(petition, day);
        return rows.size();
    }

    public int row(int i, int what) {
        return has(rows, i) && in(what, 0, 1) ? rows.get(i)[what] : -9;
    }

    public int alterRow(int i, int what, int v) {
        if (!has(rows, i) || !in(what, 0, 1)) return -9;
        int was = rows.get(i)[what];
        rows.get(i)[what] = v;
        return was;
    }

    public int judge(int petition, int day) {
        if (!has(s.petitions, petition) || !day(day)) return BAD;
        List<int[]> right = rightRows(petition, day);
        for (int i = 0; i < rows.size(); i++) {
            if (!has(right, i) || !java.util.Arrays.equals(right.get(i), rows.get(i))) return i + 1;
        }
        return rows.size() < right.size() ? rows.size() + 1 : 0;
    }

    // ---- letters

    public int letter(int hand, int v, int petition) {
        if (!has(s.persons, hand) || !has(s.versions, v) || !has(s.petitions, petition)) return BAD;
        Version ver = s.versions.get(v);
        Petition p = s.petitions.get(petition);
        if (!ver.inForce(s.today) || !ver.cond.met(p.facts) || !s.persons.get(hand).alive(s.today)) return STATE;
        if (s.letters.size() == 24) return FULL;
        Letter l = new Letter();
        l.number = s.letters.size();
        l.version = ver;
        l.versionNumber = v;
        l.petition = p;
        l.petitionNumber = petition;
        l.hand = hand;
        l.day = s.today;
        for (int item : ver.items) l.words.add(item > 1000 ? -1 : item);
        s.letters.add(l);
        return l.number;
    }

    public int fill(int letter, int i, int x) {
        if (!has(s.letters, letter)) return BAD;
        Letter l = s.letters.get(letter);
        if (!has(l.version.items, i)) return BAD;
        int item = l.version.items.get(i);
        boolean told = item == 1001 ? has(s.persons, x) : item == 1002 ? in(x, 0, 99) : in(x, 0, 999);
        if (item < 1000 || !told) return BAD;
        if (!l.sealDays.isEmpty()) return STATE;
        l.words.set(i, x);
        return 1;
    }

    public int slip(int letter, int i, int x) {
        if (!has(s.letters, letter) || !has(s.letters.get(letter).words, i) || !in(x, 0, 999)) return -9;
        Letter l = s.letters.get(letter);
        if (!l.sealDays.isEmpty()) return STATE;
        return l.words.set(i, x);
    }

    public int word(int letter, int i) {
        if (!has(s.letters, letter) || !has(s.letters.get(letter).words, i)) return -9;
        return s.letters.get(letter).words.get(i);
    }

    public int letterOf(int letter, int what) {
        if (!has(s.letters, letter)) return BAD;
        Letter l = s.letters.get(letter);
        switch (what) {
            case 0: return l.kind();
            case 1: return l.versionNumber;
            case 2: return l.petitionNumber;
            case 3: return l.hand;
            case 4: return l.day;
            case 5: return l.words.size();
            case 6: return l.sealDays.size();
            case 7: return l.done() == null ? NONE : l.done();
            case 8: return l.inner == null ? NONE : l.inner.number;
            case 9: {
                int depth = 0;
                for (Letter o : s.letters) if (l.hangsOn(o)) depth++;
                return depth;
            }
            case 10: return l.standsFor == null ? NONE : l.standsFor.number;
            case 11: {
                for (Letter o : s.letters) if (o.standsFor == l) return o.number;
                return NONE;
            }
            case 12: return (int) s.letters.stream().filter(o -> o.hangsOn(l)).count();
            default: return BAD;
        }
    }

    int voidWord(Letter l) {
        for (int i = 0; i < l.own(); i++) {
            int item = l.version.items.get(i), word = l.words.get(i);
            boolean right;
            if (item == 1001) right = has(s.persons, word) && s.persons.get(word).alive(l.day);
            else if (item > 1001) right = word != -1;
            else right = word == item;
            if (!right) return i;
        }
        return -1;
    }

    public int isVoid(int letter) {
        return has(s.letters, letter) ? voidWord(s.letters.get(letter)) + 1 : BAD;
    }

    public int mend(int letter, int other) {
        if (!has(s.letters, letter) || !has(s.letters, other) || letter == other) return BAD;
        Letter l = s.letters.get(letter), o = s.letters.get(other);
        boolean hasOne = letterOf(other, 11) != NONE;
        boolean may = other < letter && voidWord(o) != -1 && o.petition == l.petition && !hasOne && l.standsFor == null;
        if (!may) return STATE;
        l.standsFor = o;
        return 1;
    }

    public int inspect(int letter, int other) {
        if (!has(s.letters, letter) || !has(s.letters, other) || other >= letter) return BAD;
        Letter l = s.letters.get(letter), o = s.letters.get(other);
        if (l.kind() != 3 || !l.sealDays.isEmpty()) return STATE;
        if (l.words.size() + o.words.size() > 36) return FULL;
        l.words.addAll(o.words);
        l.inner = o;
        return l.words.size();
    }

    boolean unlike(Letter l, int i) {
        return l.inner != null && i >= l.own() && !l.words.get(i).equals(l.inner.words.get(i - l.own()));
    }

    public int differ(int letter, int what) {
        if (!has(s.letters, letter) || !in(what, 0, 1)) return BAD;
        Letter l = s.letters.get(letter);
        for (int i = 0; i < l.words.size(); i++) {
            if (!unlike(l, i)) continue;
            if (what == 0) return i;
            int j = i - l.own();
            while (unlike(l.inner, j)) {
                l = l.inner;
                j -= l.own();
            }
            return l.number;
        }
        return NONE;
    }

    // ---- seals, fees, rolls

    public int seal(int letter, int day) {
        if (!has(s.letters, letter) || !in(day, 0, s.today)) return BAD;
        if (why(letter, day) != 0) return STATE;
        s.letters.get(letter).sealDays.add(day);
        return s.letters.get(letter).sealDays.size();
    }

    public int why(int letter, int day) {
        if (!has(s.letters, letter) || !day(day)) return BAD;
        Letter l = s.letters.get(letter);
        if (l.done() != null) return 1;
        if (voidWord(l) != -1) return 2;
        if (day < l.day || l.sealDays.stream().anyMatch(d -> day < d)) return 3;
        int office = l.version.seals.get(l.sealDays.size());
        if (s.persons.stream().noneMatch(p -> p.holdsOffice(office, day))) return 4;
        return s.persons.stream().anyMatch(p -> p.holdsOffice(office, day) && p.alive(day)) ? 0 : 5;
    }

    public int crack(int seal, int day) {
        if (!in(seal, 0, 3) || !day(day)) return BAD;
        if (s.cracks[seal] != null) return STATE;
        s.cracks[seal] = day;
        return 1;
    }

    public int hamper(int term, int what) {
        if (!in(term, 0, 39) || !in(what, 0, 2)) return BAD;
        return s.letters.stream().filter(l -> l.done() != null && l.done() / 90 == term)
            .filter(l -> what == 0 || l.petition.person.poor == (what == 2)).mapToInt(l -> l.version.fee).sum();
    }

    List<Letter> entriesOf(int roll) {
        List<Letter> list = new ArrayList<>();
        for (int[] e : s.entries) if (e[0] == roll) list.add(s.letters.get(e[1]));
        return list;
    }

    public int enter(int roll, int letter) {
        if (!in(roll, 0, 2) || !has(s.letters, letter)) return BAD;
        if (s.entries.size() == 40) return FULL;
        s.entries.add(new int[] {roll, letter});
        return entriesOf(roll).size();
    }

    public int roll(int roll, int what) {
        if (!in(roll, 0, 2)) return BAD;
        List<Letter> list = entriesOf(roll);
        if (what == 0) return list.size();
        List<Letter> must = new ArrayList<>();
        for (Letter l : s.letters) if (l.done() != null && l.version.roll == roll) must.add(l);
        if (what == 1 || what == 2) {
            for (int i = 0; i < list.size(); i++) {
                Letter l = list.get(i);
                int wrong = 0;
                if (!must.contains(l)) wrong = 1;
                else if (list.subList(0, i).contains(l)) wrong = 2;
                else if (i > 0 && l.done() < list.get(i - 1).done()) wrong = 3;
                if (wrong > 0) return what == 1 ? i : wrong;
            }
            return what == 1 ? NONE : 0;
        }
        if (what == 3 || what == 4) {
            must.removeAll(list);
            return what == 3 ? must.size() : must.isEmpty() ? NONE : must.get(0).number;
        }
        return has(list, what - 10) ? list.get(what - 10).number : BAD;
    }

    // ---- witnesses, claims

    public int witness(int letter, int person, int office) {
        if (!has(s.letters, letter) || !has(s.persons, person) || !in(office, 0, 6)) return BAD;
        Letter l = s.letters.get(letter);
        if (l.kind() != 3 && l.kind() != 4) return STATE;
        if (l.witnesses.size() == 4) return FULL;
        l.witnesses.add(new int[] {person, office});
        return l.witnesses.size();
    }

    public int place(int letter, int place) {
        if (!has(s.letters, letter) || !in(place, 0, 9)) return BAD;
        int was = s.letters.get(letter).place;
        s.letters.get(letter).place = place;
        return was;
    }

    public int could(int letter, int i) {
        if (!has(s.letters, letter) || !has(s.letters.get(letter).witnesses, i)) return BAD;
        Letter l = s.letters.get(letter);
        Person p = s.persons.get(l.witnesses.get(i)[0]);
        int office = l.witnesses.get(i)[1];
        if (!p.alive(l.day)) return 1;
        if (office != 6 && !p.holdsOffice(office, l.day)) return 2;
        return new int[] {3, 0, 4}[p.near(l.place, l.day)];
    }

    public int claim(int form, int day, int hand, int seal, int year, int what) {
        if (!in(form, 0, 7) || !day(day) || !has(s.persons, hand) || !in(seal, 0, 7) || year < 1 || !in(what, 0, 3)) return BAD;
        Integer crack = s.cracks[seal & 3];
        int rightYear = year(day, 1) == NONE ? -1 : year(day, 1);
        int[] answer;
        if (force(form, day) == NONE) answer = new int[] {1, form, day, 0};
        else if (!s.persons.get(hand).alive(day)) answer = new int[] {2, hand, day, 0};
        else if (seal > 3 != (crack != null && crack <= day)) answer = new int[] {3, seal & 3, crack == null ? -1 : crack, 0};
        else if (rightYear != year) answer = new int[] {4, year, rightYear, 0};
        else {
            boolean found = s.letters.stream().anyMatch(l -> l.version.form == form && l.day == day && l.hand == hand);
            answer = new int[] {0, NONE, NONE, found ? 1 : 0};
        }
        return answer[what];
    }

    // ---- joins, returns, the week

    public int join(int letter, int sheet, int what) {
        if (!has(s.letters, letter) || !in(sheet, 0, 3) || !in(what, 0, 3)) return BAD;
        int[] numbers;
        try {
            numbers = (int[]) sheets[sheet];
        } catch (ClassCastException e) {
            return -13;
        }
        if (numbers == null) return -11;
        List<Integer> words = s.letters.get(letter).words;
        // the best scripts of steps, by their whole texts: m and u go on with both, v drops, w adds
        String[][] best = new String[words.size() + 1][numbers.length + 1];
        for (int i = words.size(); i >= 0; i--) {
            for (int j = numbers.length; j >= 0; j--) {
                if (i == words.size() && j == numbers.length) {
                    best[i][j] = "";
                    continue;
                }
                if (i < words.size() && j < numbers.length) {
                    best[i][j] = better(best[i][j], (words.get(i) == numbers[j] ? "m" : "u") + best[i + 1][j + 1]);
                }
                if (i < words.size()) best[i][j] = better(best[i][j], "v" + best[i + 1][j]);
                if (j < numbers.length) best[i][j] = better(best[i][j], "w" + best[i][j + 1]);
            }
        }
        String steps = best[0][0];
        String asked = new String[] {"uvw", "v", "w", "u"}[what];
        return (int) steps.chars().filter(c -> asked.indexOf(c) >= 0).count();
    }

    static String better(String a, String b) {
        if (a == null) return b;
        int ca = a.replace("m", "").length(), cb = b.replace("m", "").length();
        if (ca != cb) return ca < cb ? a : b;
        return a.replace('m', 'u').compareTo(b.replace('m', 'u')) <= 0 ? a : b;
    }

    public int back(int letter, int day) {
        if (!has(s.letters, letter) || !in(day, 0, s.today)) return BAD;
        Letter l = s.letters.get(letter);
        if (l.kind() != 5 || l.done() == null || l.back != null || day < l.done()) return STATE;
        l.back = day;
        return day > l.returnsBy() ? 2 : 1;
    }

    public int returned(int letter, int day) {
        if (!has(s.letters, letter) || !day(day)) return BAD;
        Letter l = s.letters.get(letter);
        if (l.kind() != 5 || l.done() == null) return STATE;
        if (l.back != null && l.back <= day) return l.back > l.returnsBy() ? 2 : 1;
        return day > l.returnsBy() ? 3 : 0;
    }

    public int returns(int letter) {
        if (!has(s.letters, letter)) return BAD;
        Letter l = s.letters.get(letter);
        return l.kind() != 5 || l.done() == null ? STATE : l.returnsBy();
    }

    public int dies(int letter) {
        if (!has(s.letters, letter)) return BAD;
        Letter l = s.letters.get(letter);
        if (l.kind() != 5) return STATE;
        return (int) s.letters.stream()
            .filter(m -> s.letters.stream().anyMatch(o -> o.petition == l.petition && m.hangsOn(o))).count();
    }

    public int task(int length, int due) {
        if (!in(length, 1, 5) || !in(due, 0, 30)) return BAD;
        if (s.tasks.size() == 7) return FULL;
        s.tasks.add(new int[] {length, due});
        return s.tasks.size();
    }

    public int clear() {
        int n = s.tasks.size();
        s.tasks.clear();
        return n;
    }

    public int plan(int clerks, int what) {
        if (!in(clerks, 1, 3) || !(in(what, 0, 2) || in(what, 10, 9 + s.tasks.size()))) return BAD;
        if (what == 2) return (int) s.tasks.stream().filter(t -> t[0] > t[1]).count();
        int n = s.tasks.size();
        int[] best = null;
        for (int code = 0; code < Math.pow(clerks, n); code++) {
            int[] plan = new int[n + 2];
            for (int t = n - 1, c = code; t >= 0; t--, c /= clerks) plan[t + 2] = c % clerks;
            int[] ends = new int[clerks];
            for (int t = 0; t < n; t++) {
                int end = ends[plan[t + 2]] += s.tasks.get(t)[0];
                if (end > s.tasks.get(t)[1]) {
                    plan[0]++;
                    plan[1] += end - s.tasks.get(t)[1];
                }
            }
            if (best == null || java.util.Arrays.compare(plan, best) < 0) best = plan;
        }
        return what < 2 ? best[what] : best[what - 8];
    }

    // ---- the host

    public int sheet(int sheet, int sort, int n) {
        if (!in(sheet, 0, 3) || !in(sort, -1, 4) || n > 40) return BAD;
        if (sort < 0) {
            sheets[sheet] = null;
            return 1;
        }
        try {
            Object[] made = {new byte[n], new short[n], new int[n], new long[n], new boolean[n]};
            sheets[sheet] = made[sort];
            return 1;
        } catch (NegativeArraySizeException e) {
            return -14;
        }
    }

    public int put(int sheet, int i, int v) {
        if (!in(sheet, 0, 3)) return BAD;
        Object row = sheets[sheet];
        if (row == null) return -11;
        try {
            if (row instanceof byte[] b) b[i] = (byte) v;
            if (row instanceof short[] b) b[i] = (short) v;
            if (row instanceof int[] b) b[i] = v;
            if (row instanceof long[] b) b[i] = v;
            if (row instanceof boolean[] b) b[i] = v != 0;
            return 1;
        } catch (ArrayIndexOutOfBoundsException e) {
            return -12;
        }
    }

    public int item(int sheet, int sort, int i) {
        if (!in(sheet, 0, 3) || !in(sort, 0, 4)) return BAD;
        try {
            switch (sort) {
                case 0: return ((byte[]) sheets[sheet])[i];
                case 1: return ((short[]) sheets[sheet])[i];
                case 2: return ((int[]) sheets[sheet])[i];
                case 3: return (int) ((long[]) sheets[sheet])[i];
                default: return ((boolean[]) sheets[sheet])[i] ? 1 : 0;
            }
        } catch (ClassCastException e) {
            return -13;
        } catch (NullPointerException e) {
            return -11;
        } catch (ArrayIndexOutOfBoundsException e) {
            return -12;
        }
    }

    public int comes(int sheet, int i) {
        if (!in(sheet, 0, 3)) return BAD;
        try {
            int[] row = (int[]) sheets[sheet];
            return letter(row[i], row[i + 1], row[i + 2]);
        } catch (ClassCastException e) {
            return -13;
        } catch (NullPointerException e) {
            return -11;
        } catch (ArrayIndexOutOfBoundsException e) {
            return -12;
        }
    }

    public int shelf(int shelf, int what, int n) {
        if (!in(shelf, 0, 3) || !in(what, 0, 2)) return BAD;
        if (what == 0 && !has(s.letters, n) || what == 1 && !in(n, 0, 3)) return BAD;
        shelves[shelf] = what == 0 ? Integer.valueOf(n) : what == 1 ? sheets[n] : null;
        return 1;
    }

    Object onShelf(int shelf) {
        Object held = shelves[shelf];
        if (!(held instanceof Integer n)) return held;
        return has(s.letters, n) ? body(s.letters.get(n)) : null;
    }

    public int taken(int shelf, int as) {
        if (!in(shelf, 0, 3) || !(in(as, 0, 6) || in(as, 10, 14))) return BAD;
        Object held = onShelf(shelf);
        try {
            switch (as) {
                case 0: return ((Plain) held).letter.number;
                case 1: return ((Close) held).letter.number;
                case 2: return ((Patent) held).letter.number;
                case 3: return ((Charter) held).letter.number;
                case 4: return ((Inspected) held).letter.number;
                case 5: return ((Writ) held).letter.number;
                case 6: return ((Warrant) held).letter.number;
                case 10: return ((byte[]) held).length;
                case 11: return ((short[]) held).length;
                case 12: return ((int[]) held).length;
                case 13: return ((long[]) held).length;
                default: return ((boolean[]) held).length;
            }
        } catch (ClassCastException e) {
            return -13;
        } catch (NullPointerException e) {
            return -11;
        }
    }

    Plain body(Letter l) {
        Plain b = switch (l.kind()) {
            case 1 -> new Close();
            case 2 -> new Patent();
            case 3 -> new Charter();
            case 4 -> new Inspected();
            case 5 -> new Writ();
            case 6 -> new Warrant();
            default -> new Plain();
        };
        b.letter = l;
        b.w = l.words.size();
        b.p = l.petitionNumber;
        b.v = l.versionNumber;
        b.trace = trace;
        return b;
    }

    static class Plain {
        Letter letter;
        int w, p, v;
        List<Integer> trace;

        void ran(int n) {
            if (trace.size() < 30) trace.add(n);
        }

        int moves(int x) {
            ran(10);
            return x + w;
        }

        int binds(int x) {
            ran(11);
            return moves(x) * 3;
        }

        int ends(int x) {
            ran(12);
            return binds(x) - p;
        }

        int enrols(int x) {
            ran(13);
            return x / (w - 4);
        }
    }

    static class Close extends Plain {
        @Override int binds(int x) {
            ran(20);
            return super.binds(x) ^ v;
        }
    }

    static class Patent extends Plain {
        @Override int moves(int x) {
            ran(30);
            return super.moves(x) * 2;
        }

        @Override int enrols(int x) {
            ran(31);
            return super.enrols(x + 1) + p;
        }
    }

    static class Charter extends Patent {
        @Override int ends(int x) {
            ran(40);
            return super.ends(x) + moves(1);
        }
    }

    static class Inspected extends Charter {
        @Override int moves(int x) {
            ran(50);
            return super.moves(x) - 7;
        }

        @Override int binds(int x) {
            ran(51);
            return super.binds(x) + moves(0);
        }
    }

    static class Writ extends Close {
        @Override int ends(int x) {
            ran(60);
            return super.ends(x) - binds(2);
        }

        @Override int enrols(int x) {
            ran(61);
            return 0 - super.enrols(x);
        }
    }

    static class Warrant extends Plain {
        @Override int moves(int x) {
            ran(70);
            return 0 - super.moves(x);
        }
    }

    public int act(int shelf, int act, int x) {
        trace.clear();
        if (!in(shelf, 0, 3) || !in(act, 0, 3)) return 0;
        if (!(onShelf(shelf) instanceof Plain l)) return 0;
        try {
            switch (act) {
                case 0: return l.moves(x);
                case 1: return l.binds(x);
                case 2: return l.ends(x);
                default: return l.enrols(x);
            }
        } catch (ArithmeticException e) {
            return -15;
        }
    }

    public int trace(int i) {
        return has(trace, i) ? trace.get(i) : NONE;
    }

    public int many(int what) {
        int done = (int) s.letters.stream().filter(l -> l.done() != null).count();
        int isVoid = (int) s.letters.stream().filter(l -> voidWord(l) != -1).count();
        int[] all = {s.today, s.kings.size(), s.persons.size(), s.stays, s.holds, s.versions.size(),
            s.petitions.size(), s.letters.size(), rows.size(), s.entries.size(), s.tasks.size(), tape.size(),
            trace.size(), done, isVoid};
        return in(what, 0, 14) ? all[what] : BAD;
    }

    // ---- kept

    public int keep() {
        try {
            ByteArrayOutputStream bytes = new ByteArrayOutputStream();
            new ObjectOutputStream(bytes).writeObject(s);
            kept = bytes.toByteArray();
            return 1;
        } catch (IOException e) {
            throw new IllegalStateException(e);
        }
    }

    public int again() {
        if (kept == null) return NONE;
        try {
            s = (State) new ObjectInputStream(new ByteArrayInputStream(kept)).readObject();
            return 1;
        } catch (IOException | ClassNotFoundException e) {
            throw new IllegalStateException(e);
        }
    }
}
