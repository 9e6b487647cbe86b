import java.lang.reflect.Method;
import java.util.ArrayList;
import java.util.List;
import java.util.Map;
import java.util.Random;
import java.util.TreeMap;

/** Runs of calls made by chance (of fixed seeds), each answered by WritHouse and by Naive. */
public final class AgainstNaiveTest {
    private static final int RUNS = 1000, CALLS = 512;
    private static final Map<String, Method> OURS = new TreeMap<>(), NAIVE = new TreeMap<>();
    private static final Map<String, Map<String, Integer>> SEEN = new TreeMap<>();

    private final Random random;
    private final WritHouse house = new WritHouse();
    private final Naive naive = new Naive();
    private final List<String> calls = new ArrayList<>();
    // each run does some things more often than others, so that it comes to their limits
    private final int[] favourites = new int[3];
    private boolean wrong;

    private AgainstNaiveTest(long seed) {
        random = new Random(seed);
        for (int i = 0; i < favourites.length; i++) favourites[i] = random.nextInt(22);
    }

    /** With a number: so many runs, and behind them which answers there were. */
    public static void main(String[] args) throws Exception {
        int runs = args.length > 0 ? Integer.parseInt(args[0]) : RUNS;
        for (Method m : WritHouse.class.getDeclaredMethods()) {
            if (!java.lang.reflect.Modifier.isPublic(m.getModifiers())) continue;
            OURS.put(m.getName(), m);
            NAIVE.put(m.getName(), Naive.class.getDeclaredMethod(m.getName(), m.getParameterTypes()));
        }
        int wrongRuns = 0;
        for (int run = 0; run < runs && wrongRuns < 3; run++) {
            AgainstNaiveTest one = new AgainstNaiveTest(run);
            one.go();
            if (!one.wrong) continue;
            wrongRuns++;
            System.out.println("run " + run + ":");
            for (String call : one.calls) System.out.println("  " + call);
        }
        if (args.length > 0) SEEN.forEach((name, answers) -> System.out.println(name + " " + answers));
        // a generator that never gets somewhere tests nothing there
        for (String name : OURS.keySet()) {
            if (!SEEN.containsKey(name)) {
                System.out.println(name + " was never called");
                wrongRuns++;
            }
        }
        System.out.println(wrongRuns == 0 ? "all runs agree" : wrongRuns + " runs do not agree");
        if (wrongRuns != 0) System.exit(1);
    }

    private void go() throws Exception {
        setUp();
        while (calls.size() < CALLS && !wrong) {
            step();
        }
    }

    private int call(String name, Object... args) throws Exception {
        if (wrong || calls.size() >= CALLS) return -1;
        int due = (Integer) NAIVE.get(name).invoke(naive, args);
        int got;
        try {
            got = (Integer) OURS.get(name).invoke(house, args);
        } catch (java.lang.reflect.InvocationTargetException e) {
            e.getCause().printStackTrace(System.out);
            got = due + 1;
        }
        StringBuilder text = new StringBuilder(name).append('(');
        for (int i = 0; i < args.length; i++) text.append(i > 0 ? ", " : "").append(args[i]);
        calls.add(text.append(") answered " + got + (got == due ? "" : ", due is " + due)).toString());
        wrong = got != due;
        SEEN.computeIfAbsent(name, n -> new TreeMap<>()).merge(due < 0 ? "" + Math.max(due, -101) : "ok", 1, Integer::sum);
        return got;
    }

    private int from(int lo, int hi) {
        return lo + random.nextInt(hi - lo + 1);
    }

    private boolean chance(int percent) {
        return random.nextInt(100) < percent;
    }

    private int among(int size) {
        if (chance(3) || size == 0) return chance(50) ? -1 : size;
        return random.nextInt(size);
    }

    private int day() {
        int today = naive.s.today;
        if (chance(2)) return from(0, 1) * 3601 - 1;
        if (chance(5)) return from(0, 3599);
        if (chance(40)) return today;
        return Math.max(0, Math.min(3599, today + from(-60, 60)));
    }

    private int past() {
        int today = naive.s.today;
        return chance(70) ? today : Math.max(0, today - from(-1, 40));
    }

    private int person() {
        return among(naive.s.persons.size());
    }

    private int petition() {
        return among(naive.s.petitions.size());
    }

    private int letter() {
        return among(naive.s.letters.size());
    }

    private int version() {
        return among(naive.s.versions.size());
    }

    private void setUp() throws Exception {
        int persons = from(1, 5);
        for (int i = 0; i < persons; i++) call("person", chance(80) ? 0 : from(0, 500));
        for (int office = 0; office < 4; office++) {
            if (chance(80)) call("hold", from(0, persons - 1), office, 0, from(100, 3599));
        }
        if (chance(70)) call("king", from(0, 500), chance(50));
        if (chance(50)) call("king", from(0, 2500), chance(50));
        for (int i = from(1, 3); i > 0; i--) text(true);
        for (int i = from(1, 3); i > 0; i--) call("petition", person(), from(0, 4095));
    }

    private void text(boolean good) throws Exception {
        String text = new Texts(random).text();
        if (!good) text = new Texts(random).spoiled(text);
        if (text.length() > 400) text = text.substring(0, 400);
        for (int i = 0; i < text.length(); i += 8) {
            long eight = chance(50) ? 0 : random.nextLong();
            int n = Math.min(8, text.length() - i);
            for (int k = 0; k < n; k++) {
                eight &= ~(255L << 8 * k);
                eight |= (long) (text.charAt(i + k) & 255) << 8 * k;
            }
            call("feed", eight, n);
        }
        calls.add("(the text: " + text + ")");
        call("read", chance(97) ? from(0, 7) : from(-1, 8));
    }

    private void step() throws Exception {
        switch (chance(60) ? favourites[random.nextInt(favourites.length)] : random.nextInt(22)) {
            case 0 -> stepDays();
            case 1 -> stepPersons();
            case 2 -> stepForms();
            case 3, 4 -> stepPetitions();
            case 5, 6, 7 -> stepLetters();
            case 8, 9 -> fillAndSeal();
            case 10, 11 -> stepInspect();
            case 12, 13 -> stepSeals();
            case 14 -> stepRolls();
            case 15 -> stepWitnesses();
            case 16 -> stepReturns();
            case 17 -> stepWeek();
            case 18, 19 -> stepHost();
            case 20 -> stepKept();
            default -> lookRound();
        }
    }

    private void stepDays() throws Exception {
        switch (random.nextInt(6)) {
            case 0, 1 -> call("days", chance(80) ? from(1, 30) : from(-1, 401));
            case 2 -> call("feast", from(-1, 10), chance(90) ? from(0, 359) : from(-1, 360));
            case 3 -> call("king", from(-1, 3600), chance(50));
            case 4 -> call("year", chance(50) ? from(0, 3599) : day(), chance(95) ? from(0, 2) : from(-1, 3));
            default -> call("day", among(naive.s.kings.size()), from(0, 10), from(0, 359), chance(70) ? 0 : from(-1, 2));
        }
    }

    private void stepPersons() throws Exception {
        switch (random.nextInt(8)) {
            case 0 -> call("person", chance(50) ? 0 : day());
            case 1 -> { if (chance(30)) call("die", person(), day()); }
            case 2 -> call("poor", person(), chance(50));
            case 3, 4 -> call("stay", person(), chance(90) ? from(0, 4) : from(-1, 10), day() - from(0, 30), day() + from(0, 30));
            case 5 -> call("hold", person(), chance(90) ? from(0, 5) : from(-1, 6), day() - from(0, 30), day() + from(0, 90));
            default -> call("of", person(), day(), from(-1, 20));
        }
    }

    private void stepForms() throws Exception {
        switch (random.nextInt(7)) {
            case 0 -> text(true);
            case 1 -> text(false);
            case 2 -> { if (chance(30)) call("strike", from(-1, 8)); }
            case 3 -> call("force", from(-1, 8), day());
            case 4 -> { if (chance(20)) call("feed", random.nextLong(), from(0, 9)); }
            default -> {
                int[] whats = {from(-1, 10), from(10, 22), from(30, 34)};
                call("version", version(), whats[random.nextInt(3)]);
            }
        }
    }

    private void stepPetitions() throws Exception {
        switch (random.nextInt(8)) {
            case 0 -> call("petition", person(), chance(90) ? from(0, 4095) : from(-1, 1) * 4096);
            case 1 -> call("fits", version(), petition());
            case 2 -> call("fit", petition(), day());
            case 3 -> call("lack", petition(), day());
            case 4 -> call("prove", petition(), day());
            case 5 -> call("row", from(-1, 3), from(-1, 2));
            case 6 -> call("alterRow", from(-1, 3), from(-1, 2), from(-2, 8));
            default -> {
                int p = petition(), d = day();
                call("prove", p, d);
                if (chance(30)) call("alterRow", from(0, 2), from(0, 1), from(-1, 5));
                call("judge", p, chance(70) ? d : day());
            }
        }
    }

    private void write() throws Exception {
        int p = petition();
        int v = version();
        if (chance(80) && p >= 0 && p < naive.s.petitions.size()) {
            int fit = naive.fit(p, naive.s.today);
            if (fit >= 0) v = fit;
        }
        call("letter", person(), v, p);
    }

    private void stepLetters() throws Exception {
        switch (random.nextInt(8)) {
            case 0, 1 -> write();
            case 2 -> call("fill", letter(), from(-1, 12), chance(50) ? from(-1, 3) : from(90, 1000));
            case 3 -> call("slip", letter(), chance(60) ? from(-1, 3) : from(3, 37), chance(50) ? from(-1, 10) : from(990, 1000));
            case 4 -> call("word", letter(), from(-1, 37));
            case 5 -> call("letterOf", letter(), from(-1, 13));
            case 6 -> call("isVoid", letter());
            default -> {
                int l = letter();
                call("mend", l, chance(80) ? Math.max(0, l - from(1, 3)) : letter());
            }
        }
    }

    private void fillAndSeal() throws Exception {
        int l = chance(60) ? naive.s.letters.size() - 1 : letter();
        if (l < 0 || l >= naive.s.letters.size()) return;
        Naive.Version v = naive.s.letters.get(l).version;
        for (int i = 0; i < v.items.size(); i++) {
            int item = v.items.get(i);
            int word = naive.word(l, i);
            if (item > 1000 && word == -1 || chance(5)) {
                call("fill", l, i, item == 1001 ? person() : chance(97) ? from(0, 99) : from(0, 999));
            } else if (item < 1000 && word != item && chance(70)) {
                call("slip", l, i, item);
            }
        }
        for (int i = 0; i < v.seals.size(); i++) {
            if (chance(90)) call("seal", l, past());
        }
        if (v.roll >= 0 && chance(50)) call("enter", v.roll, l);
    }

    private void stepInspect() throws Exception {
        switch (random.nextInt(4)) {
            case 0 -> {
                List<Integer> charters = new ArrayList<>();
                for (Naive.Letter l : naive.s.letters) if (l.kind() == 3) charters.add(l.number);
                int l = charters.isEmpty() ? letter() : charters.get(random.nextInt(charters.size()));
                call("inspect", l, chance(90) && l > 0 ? from(Math.max(0, l - 3), l - 1) : letter());
            }
            case 1 -> {
                int l = letter();
                call("differ", l, chance(95) ? from(0, 1) : from(-1, 2));
                call("differ", l, 1);
            }
            case 2 -> {
                int l = letter();
                call("letterOf", l, chance(50) ? 9 : 12);
                call("slip", l, from(0, 12), from(0, 3));
            }
            default -> call("inspect", letter(), letter());
        }
    }

    private void stepSeals() throws Exception {
        switch (random.nextInt(5)) {
            case 0 -> call("seal", letter(), past());
            case 1, 2 -> call("why", letter(), day());
            case 3 -> { if (chance(20)) call("crack", from(-1, 4), day()); }
            default -> call("hamper", chance(80) ? Math.min(39, naive.s.today / 90) : from(-1, 40), from(-1, 3));
        }
    }

    private void stepRolls() throws Exception {
        if (chance(30)) call("enter", from(-1, 3), letter());
        int roll = chance(95) ? from(0, 2) : from(-1, 3);
        call("roll", roll, chance(80) ? from(0, 4) : from(-1, 20));
        call("roll", roll, from(1, 4));
    }

    private void stepWitnesses() throws Exception {
        int l = letter();
        switch (random.nextInt(4)) {
            case 0 -> {
                call("witness", l, person(), chance(40) ? 6 : from(-1, 7));
                call("could", l, 0);
            }
            case 1 -> call("place", l, chance(90) ? from(0, 4) : from(-1, 10));
            case 2 -> call("could", l, from(-1, 4));
            default -> claim();
        }
    }

    private void claim() throws Exception {
        int form = chance(95) ? from(0, 7) : from(-1, 8), d = day(), hand = person();
        if (chance(50) && !naive.s.letters.isEmpty()) {
            Naive.Letter l = naive.s.letters.get(random.nextInt(naive.s.letters.size()));
            form = l.version.form;
            d = l.day;
            hand = chance(80) ? l.hand : hand;
        }
        int right = d < 0 || d > 3599 ? 1 : naive.year(d, 1);
        int year = chance(80) && right > 0 ? right : from(0, 3);
        int seal = chance(60) ? from(0, 3) : from(-1, 8);
        for (int what = 0; what < 4; what++) if (chance(50)) call("claim", form, d, hand, seal, year, what);
        if (chance(5)) call("claim", form, d, hand, seal, year, from(0, 1) * 5 - 1);
    }

    private void stepReturns() throws Exception {
        int l = letter();
        List<Integer> writs = new ArrayList<>();
        for (Naive.Letter w : naive.s.letters) if (w.kind() == 5) writs.add(w.number);
        if (chance(80) && !writs.isEmpty()) l = writs.get(random.nextInt(writs.size()));
        switch (random.nextInt(5)) {
            case 0 -> call("back", l, past());
            case 1, 2 -> call("returned", l, chance(50) ? day() : from(0, 3599));
            case 3 -> call("returns", l);
            default -> call("dies", l);
        }
    }

    private void stepWeek() throws Exception {
        switch (random.nextInt(8)) {
            case 0, 1, 2, 3 -> call("task", chance(95) ? from(1, 5) : from(0, 6), chance(95) ? from(0, 12) : from(-1, 31));
            case 4 -> { if (chance(30)) call("clear"); }
            default -> call("plan", chance(95) ? from(1, 3) : from(0, 4), chance(60) ? from(-1, 3) : from(10, 17));
        }
    }

    private void stepHost() throws Exception {
        int s = chance(97) ? from(0, 3) : from(-1, 4);
        switch (random.nextInt(10)) {
            case 0 -> call("sheet", s, chance(50) ? 2 : from(0, 5), chance(95) ? from(0, 20) : from(-1, 41));
            case 1 -> call("sheet", s, chance(20) ? -1 : 2, from(-1, 41));
            case 2 -> {
                for (int i = 0; i < 6; i++) call("put", s, from(-1, 8), chance(60) ? from(-1, 9) : random.nextInt());
            }
            case 3 -> call("item", s, chance(50) ? 2 : from(-1, 5), from(-1, 12));
            case 4 -> {
                int i = from(0, 5);
                call("put", s, i, person());
                call("put", s, i + 1, version());
                call("put", s, i + 2, petition());
                call("comes", s, chance(90) ? i : from(0, 1) * Integer.MAX_VALUE - 1);
            }
            case 5 -> joins(s);
            case 6 -> call("shelf", s, chance(60) ? 0 : from(-1, 3), chance(80) ? letter() : from(-1, 4));
            case 7 -> call("taken", s, chance(50) ? from(-1, 7) : from(9, 15));
            default -> {
                if (chance(70)) call("shelf", s, 0, letter());
                call("act", s, chance(95) ? from(0, 3) : from(-1, 4), chance(60) ? from(-9, 9) : random.nextInt());
                call("trace", from(-1, 14));
                call("many", 12);
            }
        }
    }

    private void joins(int s) throws Exception {
        int l = letter();
        if (l >= 0 && l < naive.s.letters.size() && chance(60)) {
            List<Integer> words = naive.s.letters.get(l).words;
            call("sheet", s, 2, Math.min(40, words.size() + from(0, 2)));
            for (int i = 0; i < words.size() && i < 12; i++) {
                if (chance(85)) call("put", s, i + (chance(20) ? 1 : 0), words.get(i));
            }
        }
        for (int what = 0; what < 4; what++) call("join", l, s, what);
        if (chance(5)) call("join", l, s, from(0, 1) * 5 - 1);
    }

    private void stepKept() throws Exception {
        if (chance(30)) call("keep");
        if (chance(15)) call("again");
    }

    private void lookRound() throws Exception {
        call("many", from(-1, 15));
    }

    /** Texts of forms, and spoiled ones. */
    private static final class Texts {
        private final Random random;
        private int open;

        Texts(Random random) {
            this.random = random;
        }

        private int below(int n) {
            return random.nextInt(n);
        }

        String text() {
            List<String> parts = new ArrayList<>();
            String[] kinds = {"letter", "close", "patent", "charter", "charter", "charter", "writ", "writ", "warrant"};
            if (below(5) > 0) parts.add("kind " + kinds[below(9)]);
            StringBuilder say = new StringBuilder("say");
            String[] places = {"person", "land", "amount"};
            for (int i = 1 + below(below(4) == 0 ? 12 : 4); i > 0; i--) {
                say.append(' ').append(below(2) == 0 ? places[below(3)] : "" + below(below(2) == 0 ? 4 : 1000));
            }
            parts.add(say.toString());
            if (below(2) > 0) parts.add("wants " + cond(3));
            if (below(3) > 0) {
                List<Integer> seals = new ArrayList<>(List.of(0, 1, 2, 3));
                java.util.Collections.shuffle(seals, random);
                StringBuilder b = new StringBuilder("seals");
                for (int s : seals.subList(0, 1 + below(3))) b.append(' ').append(s);
                parts.add(b.toString());
            }
            if (below(2) > 0) parts.add("fee " + below(1000));
            if (below(3) > 0) parts.add("roll " + below(3));
            if (below(2) > 0) parts.add("due " + below(200));
            java.util.Collections.shuffle(parts, random);
            StringBuilder all = new StringBuilder();
            for (String part : parts) all.append(below(4) == 0 ? "  " : "").append(part).append(below(4) == 0 ? " ; " : ";");
            return all.toString();
        }

        private String cond(int size) {
            String c = any(size);
            return below(4) == 0 ? c + " unless " + any(size) : c;
        }

        private String any(int size) {
            String c = all(size);
            while (below(3) == 0) c += " or " + all(size - 1);
            return c;
        }

        private String all(int size) {
            String c = one(size);
            while (below(3) == 0) c += " and " + one(size - 1);
            return c;
        }

        private String one(int size) {
            String not = below(4) == 0 ? below(3) == 0 ? "not not " : "not " : "";
            if (size > 0 && open < 5 && below(3) == 0) {
                open++;
                String c = not + "(" + cond(size - 1) + ")";
                open--;
                return c;
            }
            if (below(4) == 0) {
                StringBuilder b = new StringBuilder(not + "most " + below(5) + "(");
                for (int i = 1 + below(below(5) == 0 ? 12 : 5); i > 0; i--) b.append(below(12)).append(i > 1 ? " " : "");
                return b.append(")").toString();
            }
            return not + "fact " + below(12);
        }

        String spoiled(String text) {
            String[] bits = {"say", "fact", "not", "(", ")", ";", "or", "and", "unless", "most", "13", "0012", "1000",
                "12", "4", "kind", "writ", "person", " ", "(((((((", "seals 1 1", "fee", "x", "\u00e9", "\t", "A",
                " 1 2 3 4 5 6 7 8 9 10 11 12", "inspected", "wants fact 0", "roll 3", "7", "abc"};
            String made = text;
            for (int n = 1 + below(2); n > 0; n--) {
                int at = below(made.length() + 1), to = Math.min(made.length(), at + below(6));
                switch (below(4)) {
                    case 0 -> made = made.substring(0, at);
                    case 1 -> made = made.substring(0, at) + made.substring(to);
                    default -> made = made.substring(0, at) + bits[below(bits.length)] + made.substring(below(2) == 0 ? at : to);
                }
            }
            return made;
        }
    }
}
