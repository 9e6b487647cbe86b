import java.util.Arrays;

/** A king's writing house; README.md tells how it is used. */
public final class WritHouse {
    public static final int BAD = -1, FULL = -2, NONE = -3, STATE = -4;

    private static final int NO_SUCH = -9;
    private static final int NOTHING = -11, OUTSIDE = -12, OTHER_KIND = -13, SIZE_BELOW_0 = -14;
    private static final int PARTED_BY_0 = -15;
    private static final int FAULTS = -100;

    private static final int DAYS = 3600, YEAR_DAYS = 360, TERM_DAYS = 90, TERMS = 40;
    private static final int COMMON_YEARS = 10, FIRST_FEAST = 100, STEP_DAYS = 400;
    private static final int KINGS = 4, PERSONS = 16, STAYS = 32, HOLDS = 24, PLACES = 10, OFFICES = 6;
    private static final int FORMS = 8, VERSIONS = 16, ITEMS = 12, SEALS = 4, ROLLS = 3, TAPE = 400;
    private static final int FACTS = 12, SETS = 4096, TABLE_WORDS = 64, MOST_OPEN = 5;
    private static final int PETITIONS = 12, LETTERS = 24, WORDS = 36, ENTRIES = 40, WITNESSES = 4;
    private static final int NUMBERS = 1000, LANDS = 100;
    private static final int PERSON = 1001, LAND = 1002, AMOUNT = 1003;
    private static final int TASKS = 7, CLERKS = 3, MOST_LENGTH = 5, MOST_DUE = 30;
    private static final int SHEETS = 4, SHELVES = 4, SHEET_SIZE = 40, BODIES = 30;
    private static final int ACT_SORTS = 4, SHEET_SORTS = 5, INTS = 2;
    private static final int LETTER = 0, CLOSE = 1, PATENT = 2, CHARTER = 3, INSPECTED = 4, WRIT = 5;
    private static final int WARRANT = 6, KINDS = 7;

    private final House now;
    private final House kept;
    private boolean isKept;
    private final Reader reader;
    private final int[] rowVersion;
    private final int[] rowBar;
    private int rowCount;
    private final Sheets sheets;
    private final Acts acts;

    public WritHouse() {
        now = new House();
        kept = new House();
        reader = new Reader();
        rowVersion = new int[VERSIONS];
        rowBar = new int[VERSIONS];
        sheets = new Sheets();
        acts = new Acts();
    }

    private static boolean within(int i, int size) {
        return i >= 0 && i < size;
    }

    private static boolean isDay(int day) {
        return within(day, DAYS);
    }

    private boolean isPerson(int person) {
        return within(person, now.people.count);
    }

    private boolean isVersion(int v) {
        return within(v, now.forms.count);
    }

    private boolean isPetition(int petition) {
        return within(petition, now.petitions);
    }

    private boolean isLetter(int letter) {
        return within(letter, now.letters.count);
    }

    // ---- days, kings

    public int days(int n) {
        if (n < 1 || n > STEP_DAYS) return BAD;
        if (!isDay(now.today + n)) return STATE;
        now.today += n;
        return now.today;
    }

    public int king(int day, boolean movable) {
        Reigns reigns = now.reigns;
        if (!isDay(day)) return BAD;
        if (!reigns.mayBegin(day)) return STATE;
        if (reigns.count >= KINGS) return FULL;
        return reigns.crown(day, movable);
    }

    public int feast(int year, int date) {
        if (!within(year, COMMON_YEARS) || !within(date, YEAR_DAYS)) return BAD;
        int was = now.reigns.feast[year];
        now.reigns.feast[year] = date;
        return was;
    }

    public int year(int day, int what) {
        if (!isDay(day) || what < 0 || what > 2) return BAD;
        Reigns reigns = now.reigns;
        int king = reigns.kingOn(day);
        if (king < 0) return NONE;
        if (what == 0) return king;
        int year = reigns.yearOn(king, day);
        return what == 1 ? year : reigns.timesInYear(king, year, day % YEAR_DAYS);
    }

    public int day(int king, int year, int date, int k) {
        Reigns reigns = now.reigns;
        if (!within(king, reigns.count) || !within(date, YEAR_DAYS) || year < 1 || k < 0) return BAD;
        int times = reigns.timesInYear(king, year, date);
        return k < times ? reigns.firstInYear(king, year, date) + YEAR_DAYS * k : NONE;
    }

    // ---- persons

    public int person(int born) {
        if (!isDay(born)) return BAD;
        if (now.people.count >= PERSONS) return FULL;
        return now.people.bear(born);
    }

    public int die(int person, int day) {
        People people = now.people;
        if (!isPerson(person) || !isDay(day) || day < people.born[person]) return BAD;
        if (people.died[person] >= 0) return STATE;
        people.died[person] = day;
        return 1;
    }

    public int poor(int person, boolean is) {
        if (!isPerson(person)) return BAD;
        boolean isNew = now.people.isPoor[person] != is;
        now.people.isPoor[person] = is;
        return isNew ? 1 : 0;
    }

    public int stay(int person, int place, int first, int last) {
        if (!isPerson(person) || !within(place, PLACES) || !isSpan(first, last)) return BAD;
        if (now.people.stays.count >= STAYS) return FULL;
        return now.people.stays.add(person, place, first, last);
    }

    public int hold(int person, int office, int first, int last) {
        if (!isPerson(person) || !within(office, OFFICES) || !isSpan(first, last)) return BAD;
        if (now.people.holds.count >= HOLDS) return FULL;
        return now.people.holds.add(person, office, first, last);
    }

    private static boolean isSpan(int first, int last) {
        return isDay(first) && isDay(last) && first <= last;
    }

    public int of(int person, int day, int what) {
        if (!isPerson(person) || !isDay(day)) return BAD;
        People people = now.people;
        if (within(what, OFFICES)) return people.inOffice(person, what, day) ? 1 : 0;
        if (what == OFFICES) return people.isAlive(person, day) ? 1 : 0;
        return what >= 10 && what < 10 + PLACES ? people.near(person, what - 10, day) : BAD;
    }

    // ---- forms

    public int feed(long eight, int n) {
        if (n < 1 || n > 8) return BAD;
        return reader.takes(eight, n) ? reader.length : FULL;
    }

    public int read(int form) {
        if (!within(form, FORMS)) {
            reader.empty();
            return BAD;
        }
        int fault = reader.parse();
        if (fault >= 0) return FAULTS - fault;
        if (now.forms.count >= VERSIONS) return FULL;
        return now.forms.putInForce(form, now.today, reader);
    }

    public int strike(int form) {
        if (!within(form, FORMS)) return BAD;
        int v = now.forms.versionOn(form, now.today);
        if (v < 0) return NONE;
        now.forms.until[v] = now.today;
        return v;
    }

    public int version(int v, int what) {
        return isVersion(v) ? now.forms.told(v, what) : BAD;
    }

    public int force(int form, int day) {
        if (!within(form, FORMS) || !isDay(day)) return BAD;
        int v = now.forms.versionOn(form, day);
        return v < 0 ? NONE : v;
    }

    // ---- petitions

    public int petition(int person, int facts) {
        if (!isPerson(person) || !within(facts, SETS)) return BAD;
        if (now.petitions >= PETITIONS) return FULL;
        return now.hear(person, facts);
    }

    public int fits(int v, int petition) {
        if (!isVersion(v) || !isPetition(petition)) return BAD;
        return now.forms.meets(v, now.facts[petition]) ? 1 : 0;
    }

    public int fit(int petition, int day) {
        if (!isPetition(petition) || !isDay(day)) return BAD;
        int v = now.forms.narrowest(now.facts[petition], day);
        return v < 0 ? NONE : v;
    }

    public int lack(int petition, int day) {
        if (!isPetition(petition) || !isDay(day)) return BAD;
        int more = now.forms.lacking(now.facts[petition], day);
        return more < 0 ? NONE : more;
    }

    public int prove(int petition, int day) {
        if (!isPetition(petition) || !isDay(day)) return BAD;
        Forms forms = now.forms;
        int facts = now.facts[petition];
        rowCount = 0;
        for (int v = 0; v < forms.count; v++) {
            if (forms.isBarred(v, facts, day) && rowCount < VERSIONS) {
                rowVersion[rowCount] = v;
                rowBar[rowCount] = forms.bar(v, facts);
                rowCount++;
            }
        }
        return rowCount;
    }

    public int row(int i, int what) {
        if (!within(i, rowCount) || what < 0 || what > 1) return NO_SUCH;
        return what == 0 ? rowVersion[i] : rowBar[i];
    }

    public int alterRow(int i, int what, int v) {
        if (!within(i, rowCount) || what < 0 || what > 1) return NO_SUCH;
        int was = what == 0 ? rowVersion[i] : rowBar[i];
        if (what == 0) rowVersion[i] = v;
        else rowBar[i] = v;
        return was;
    }

    public int judge(int petition, int day) {
        if (!isPetition(petition) || !isDay(day)) return BAD;
        Forms forms = now.forms;
        int facts = now.facts[petition];
        int i = 0;
        for (int v = 0; v < forms.count; v++) {
            if (!forms.isBarred(v, facts, day)) continue;
            if (i >= rowCount || rowVersion[i] != v || rowBar[i] != forms.bar(v, facts)) return i + 1;
            i++;
        }
        return i < rowCount ? i + 1 : 0;
    }

    // ---- letters

    public int letter(int hand, int v, int petition) {
        if (!isPerson(hand) || !isVersion(v) || !isPetition(petition)) return BAD;
        Forms forms = now.forms;
        if (!forms.inForce(v, now.today) || !forms.meets(v, now.facts[petition])) return STATE;
        if (!now.people.isAlive(hand, now.today)) return STATE;
        if (now.letters.count >= LETTERS) return FULL;
        return now.letters.write(hand, v, petition, now.today);
    }

    public int fill(int letter, int i, int x) {
        if (!isLetter(letter) || !mayFill(now.letters.itemAt(letter, i), x)) return BAD;
        if (now.letters.sealCount[letter] > 0) return STATE;
        now.letters.words[letter][i] = x;
        return 1;
    }

    private boolean mayFill(int item, int x) {
        if (item == PERSON) return isPerson(x);
        if (item == LAND) return within(x, LANDS);
        return item == AMOUNT && within(x, NUMBERS);
    }

    public int slip(int letter, int i, int x) {
        if (!isWord(letter, i) || !within(x, NUMBERS)) return NO_SUCH;
        Letters letters = now.letters;
        if (letters.sealCount[letter] > 0) return STATE;
        int was = letters.words[letter][i];
        letters.words[letter][i] = x;
        return was;
    }

    public int word(int letter, int i) {
        return isWord(letter, i) ? now.letters.words[letter][i] : NO_SUCH;
    }

    private boolean isWord(int letter, int i) {
        return isLetter(letter) && within(i, now.letters.wordCount[letter]);
    }

    public int letterOf(int letter, int what) {
        return isLetter(letter) ? now.letters.told(letter, what) : BAD;
    }

    public int isVoid(int letter) {
        return isLetter(letter) ? now.letters.voidWord(letter) + 1 : BAD;
    }

    public int mend(int letter, int other) {
        if (!isLetter(letter) || !isLetter(other) || letter == other) return BAD;
        Letters letters = now.letters;
        if (other > letter || letters.voidWord(other) < 0) return STATE;
        if (letters.petition[letter] != letters.petition[other]) return STATE;
        if (letters.mender(other) >= 0 || letters.standsFor[letter] >= 0) return STATE;
        letters.standsFor[letter] = other;
        return 1;
    }

    public int inspect(int letter, int other) {
        if (!isLetter(letter) || !isLetter(other) || other >= letter) return BAD;
        Letters letters = now.letters;
        if (letters.kindOf(letter) != CHARTER || letters.sealCount[letter] > 0) return STATE;
        if (letters.wordCount[letter] + letters.wordCount[other] > WORDS) return FULL;
        return letters.setIn(letter, other);
    }

    public int differ(int letter, int what) {
        if (!isLetter(letter) || what < 0 || what > 1) return BAD;
        int i = now.letters.firstUnlike(letter);
        if (i < 0) return NONE;
        return what == 0 ? i : now.letters.beginner(letter, i);
    }

    // ---- seals, fees, rolls

    public int seal(int letter, int day) {
        if (!isLetter(letter) || !within(day, now.today + 1)) return BAD;
        if (now.letters.sealBar(letter, day) != 0) return STATE;
        return now.letters.setSeal(letter, day);
    }

    public int why(int letter, int day) {
        return isLetter(letter) && isDay(day) ? now.letters.sealBar(letter, day) : BAD;
    }

    public int crack(int seal, int day) {
        if (!within(seal, SEALS) || !isDay(day)) return BAD;
        if (now.cracked[seal] >= 0) return STATE;
        now.cracked[seal] = day;
        return 1;
    }

    public int hamper(int term, int what) {
        if (!within(term, TERMS) || what < 0 || what > 2) return BAD;
        int letOff = now.fees(term, true);
        if (what == 2) return letOff;
        int paid = now.fees(term, false);
        return what == 1 ? paid : paid + letOff;
    }

    public int enter(int roll, int letter) {
        if (!within(roll, ROLLS) || !isLetter(letter)) return BAD;
        if (now.entries >= ENTRIES) return FULL;
        now.addEntry(roll, letter);
        return now.entriesOn(roll);
    }

    public int roll(int roll, int what) {
        if (!within(roll, ROLLS)) return BAD;
        if (what == 0) return now.entriesOn(roll);
        if (what == 1) return now.firstWrongEntry(roll);
        if (what == 2) return now.wrongWhy(roll);
        if (what == 3) return now.missingOn(roll);
        if (what == 4) return now.leastMissingOn(roll);
        int letter = what < 10 ? -1 : now.entryOn(roll, what - 10);
        return letter < 0 ? BAD : letter;
    }

    // ---- witnesses, claims

    public int witness(int letter, int person, int office) {
        if (!isLetter(letter) || !isPerson(person) || !within(office, OFFICES + 1)) return BAD;
        Letters letters = now.letters;
        int kind = letters.kindOf(letter);
        if (kind != CHARTER && kind != INSPECTED) return STATE;
        if (letters.witnessCount[letter] >= WITNESSES) return FULL;
        return letters.addWitness(letter, person, office);
    }

    public int place(int letter, int place) {
        if (!isLetter(letter) || !within(place, PLACES)) return BAD;
        int was = now.letters.place[letter];
        now.letters.place[letter] = place;
        return was;
    }

    public int could(int letter, int i) {
        if (!isLetter(letter) || !within(i, now.letters.witnessCount[letter])) return BAD;
        return now.letters.witnessFault(letter, i);
    }

    public int claim(int form, int day, int hand, int seal, int year, int what) {
        if (!within(form, FORMS) || !isDay(day) || !isPerson(hand)) return BAD;
        if (!within(seal, 2 * SEALS) || year < 1 || what < 0 || what > 3) return BAD;
        int forged = now.forgedBy(form, day, hand, seal, year);
        switch (what) {
            case 0:
                return forged;
            case 1:
                return firstFact(forged, form, hand, seal, year);
            case 2:
                return secondFact(forged, day, seal);
            default:
                return forged == 0 && now.isFound(form, day, hand) ? 1 : 0;
        }
    }

    private static int firstFact(int forged, int form, int hand, int seal, int year) {
        switch (forged) {
            case 1:
                return form;
            case 2:
                return hand;
            case 3:
                return seal % SEALS;
            case 4:
                return year;
            default:
                return NONE;
        }
    }

    private int secondFact(int forged, int day, int seal) {
        switch (forged) {
            case 1:
            case 2:
                return day;
            case 3:
                return now.cracked[seal % SEALS];
            case 4:
                return now.reigns.yearOn(day);
            default:
                return NONE;
        }
    }

    // ---- joins, returns, the week

    public int join(int letter, int sheet, int what) {
        if (!isLetter(letter) || !within(sheet, SHEETS) || what < 0 || what > 3) return BAD;
        int refused = sheets.refusal(sheet, INTS);
        if (refused != 0) return refused;
        return sheets.joined(now.letters.words[letter], now.letters.wordCount[letter], sheet, what);
    }

    public int back(int letter, int day) {
        if (!isLetter(letter) || !within(day, now.today + 1)) return BAD;
        Letters letters = now.letters;
        if (!letters.isDoneWrit(letter) || letters.backOn[letter] >= 0) return STATE;
        if (day < letters.doneOn(letter)) return STATE;
        letters.backOn[letter] = day;
        return day <= letters.backBy(letter) ? 1 : 2;
    }

    public int returned(int letter, int day) {
        if (!isLetter(letter) || !isDay(day)) return BAD;
        Letters letters = now.letters;
        if (!letters.isDoneWrit(letter)) return STATE;
        int by = letters.backBy(letter), on = letters.backOn[letter];
        if (on >= 0 && on <= day) return on <= by ? 1 : 2;
        return day > by ? 3 : 0;
    }

    public int returns(int letter) {
        if (!isLetter(letter)) return BAD;
        return now.letters.isDoneWrit(letter) ? now.letters.backBy(letter) : STATE;
    }

    public int dies(int letter) {
        if (!isLetter(letter)) return BAD;
        if (now.letters.kindOf(letter) != WRIT) return STATE;
        return now.letters.hangingOnPetition(now.letters.petition[letter]);
    }

    public int task(int length, int due) {
        if (length < 1 || length > MOST_LENGTH || due < 0 || due > MOST_DUE) return BAD;
        if (now.week.count >= TASKS) return FULL;
        return now.week.add(length, due);
    }

    public int clear() {
        int were = now.week.count;
        now.week.count = 0;
        return were;
    }

    public int plan(int clerks, int what) {
        Week week = now.week;
        if (clerks < 1 || clerks > CLERKS) return BAD;
        boolean asksTask = what >= 10 && what < 10 + week.count;
        if (!asksTask && (what < 0 || what > 2)) return BAD;
        if (what == 2) return week.bound();
        week.makePlan(clerks);
        if (what == 0) return week.late;
        return what == 1 ? week.lateDays : week.clerk[what - 10];
    }

    // ---- the host

    public int sheet(int sheet, int sort, int n) {
        if (!within(sheet, SHEETS) || sort < -1 || sort >= SHEET_SORTS || n > SHEET_SIZE) return BAD;
        // a missing sheet is no row, so n is not its size
        int size = sort < 0 ? 0 : n;
        if (size < 0) return SIZE_BELOW_0;
        sheets.lay(sheet, sort, size);
        return 1;
    }

    public int put(int sheet, int i, int v) {
        if (!within(sheet, SHEETS)) return BAD;
        if (sheets.sort[sheet] < 0) return NOTHING;
        if (!within(i, sheets.size[sheet])) return OUTSIDE;
        sheets.setItem(sheet, i, v);
        return 1;
    }

    public int item(int sheet, int sort, int i) {
        if (!within(sheet, SHEETS) || !within(sort, SHEET_SORTS)) return BAD;
        int refused = sheets.refusal(sheet, sort);
        if (refused != 0) return refused;
        return within(i, sheets.size[sheet]) ? sheets.items[sheet][i] : OUTSIDE;
    }

    public int comes(int sheet, int i) {
        if (!within(sheet, SHEETS)) return BAD;
        int refused = sheets.refusal(sheet, INTS);
        if (refused != 0) return refused;
        if (i < 0 || i > sheets.size[sheet] - 3) return OUTSIDE;
        int[] items = sheets.items[sheet];
        return letter(items[i], items[i + 1], items[i + 2]);
    }

    public int shelf(int shelf, int what, int n) {
        if (!within(shelf, SHELVES)) return BAD;
        if (what == 0 && isLetter(n)) sheets.shelveLetter(shelf, n);
        else if (what == 1 && within(n, SHEETS)) sheets.shelveRow(shelf, n);
        else if (what == 2) sheets.clearShelf(shelf);
        else return BAD;
        return 1;
    }

    public int taken(int shelf, int as) {
        boolean asLetter = within(as, KINDS);
        if (!within(shelf, SHELVES)) return BAD;
        if (!asLetter && (as < 10 || as >= 10 + SHEET_SORTS)) return BAD;
        if (sheets.holdsRow(shelf)) {
            return sheets.shelfSort[shelf] == as - 10 ? sheets.shelfNumber[shelf] : OTHER_KIND;
        }
        int letter = letterOnShelf(shelf);
        if (letter < 0) return NOTHING;
        return asLetter && Acts.isUnder(now.letters.kindOf(letter), as) ? letter : OTHER_KIND;
    }

    /** The letter that a shelf holds, or -1; again() may have taken it away. */
    private int letterOnShelf(int shelf) {
        if (!sheets.holdsLetter(shelf)) return -1;
        int letter = sheets.shelfNumber[shelf];
        return isLetter(letter) ? letter : -1;
    }

    public int act(int shelf, int act, int x) {
        acts.clearTrace();
        if (!within(shelf, SHELVES) || !within(act, ACT_SORTS)) return 0;
        int letter = letterOnShelf(shelf);
        if (letter < 0) return 0;
        Letters letters = now.letters;
        acts.take(letters.wordCount[letter], letters.petition[letter], letters.version[letter]);
        return acts.run(letters.kindOf(letter), act, x);
    }

    public int trace(int i) {
        return within(i, acts.bodies) ? acts.body[i] : NONE;
    }

    public int many(int what) {
        switch (what) {
            case 8:
                return rowCount;
            case 11:
                return reader.length;
            case 12:
                return acts.bodies;
            default:
                return now.counted(what);
        }
    }

    // ---- kept

    public int keep() {
        kept.become(now);
        isKept = true;
        return 1;
    }

    public int again() {
        if (!isKept) return NONE;
        now.become(kept);
        return 1;
    }

    /** All that keep() keeps. */
    private static final class House {
        int today;
        int petitions;
        final int[] pleader = new int[PETITIONS];
        final int[] facts = new int[PETITIONS];
        int entries;
        final int[] entryRoll = new int[ENTRIES];
        final int[] entryLetter = new int[ENTRIES];
        final int[] cracked = new int[SEALS];
        final Reigns reigns = new Reigns();
        final People people;
        final Forms forms;
        final Letters letters;
        final Week week = new Week();

        House() {
            // what a letter is turns on its version and on the persons that it names
            Forms itsForms = new Forms();
            People itsPeople = new People();
            forms = itsForms;
            people = itsPeople;
            letters = new Letters(itsForms, itsPeople);
            Arrays.fill(cracked, -1);
        }

        void become(House other) {
            today = other.today;
            petitions = other.petitions;
            System.arraycopy(other.pleader, 0, pleader, 0, PETITIONS);
            System.arraycopy(other.facts, 0, facts, 0, PETITIONS);
            entries = other.entries;
            System.arraycopy(other.entryRoll, 0, entryRoll, 0, ENTRIES);
            System.arraycopy(other.entryLetter, 0, entryLetter, 0, ENTRIES);
            System.arraycopy(other.cracked, 0, cracked, 0, SEALS);
            reigns.become(other.reigns);
            people.become(other.people);
            forms.become(other.forms);
            letters.become(other.letters);
            week.become(other.week);
        }

        int hear(int person, int set) {
            pleader[petitions] = person;
            facts[petitions] = set;
            return petitions++;
        }

        int fees(int term, boolean letOff) {
            int sum = 0;
            for (int l = 0; l < letters.count; l++) {
                int done = letters.doneOn(l);
                boolean isPoor = people.isPoor[pleader[letters.petition[l]]];
                if (done >= 0 && done / TERM_DAYS == term && isPoor == letOff) {
                    sum += forms.fee[letters.version[l]];
                }
            }
            return sum;
        }

        void addEntry(int roll, int letter) {
            entryRoll[entries] = roll;
            entryLetter[entries] = letter;
            entries++;
        }

        int entriesOn(int roll) {
            int n = 0;
            for (int e = 0; e < entries; e++) {
                if (entryRoll[e] == roll) n++;
            }
            return n;
        }

        /** The letter of entry i of a roll, or -1. */
        int entryOn(int roll, int i) {
            int n = 0;
            for (int e = 0; e < entries; e++) {
                if (entryRoll[e] != roll) continue;
                if (n == i) return entryLetter[e];
                n++;
            }
            return -1;
        }

        private boolean mustBeOn(int roll, int letter) {
            return letters.doneOn(letter) >= 0 && forms.roll[letters.version[letter]] == roll;
        }

        private boolean isAmongFirst(int n, int roll, int letter) {
            for (int e = 0; e < n && e < entries; e++) {
                if (entryRoll[e] == roll && entryLetter[e] == letter) return true;
            }
            return false;
        }

        /** Why an entry is wrong (0: it is right) behind one of a letter done on a day. */
        private int entryFault(int e, int doneBefore) {
            int letter = entryLetter[e];
            if (!mustBeOn(entryRoll[e], letter)) return 1;
            if (isAmongFirst(e, entryRoll[e], letter)) return 2;
            return letters.doneOn(letter) < doneBefore ? 3 : 0;
        }

        /** The place among all entries of the first that is wrong on a roll, or -1. */
        private int wrongEntry(int roll) {
            int doneBefore = -1;
            for (int e = 0; e < entries; e++) {
                if (entryRoll[e] != roll) continue;
                if (entryFault(e, doneBefore) != 0) return e;
                doneBefore = letters.doneOn(entryLetter[e]);
            }
            return -1;
        }

        int firstWrongEntry(int roll) {
            int wrong = wrongEntry(roll);
            int n = 0;
            for (int e = 0; e < wrong; e++) {
                if (entryRoll[e] == roll) n++;
            }
            return wrong < 0 ? NONE : n;
        }

        int wrongWhy(int roll) {
            int wrong = wrongEntry(roll);
            if (wrong < 0) return 0;
            int doneBefore = -1;
            for (int e = 0; e < wrong; e++) {
                if (entryRoll[e] == roll) doneBefore = letters.doneOn(entryLetter[e]);
            }
            return entryFault(wrong, doneBefore);
        }

        private boolean isMissingOn(int roll, int letter) {
            return mustBeOn(roll, letter) && !isAmongFirst(entries, roll, letter);
        }

        int missingOn(int roll) {
            int n = 0;
            for (int l = 0; l < letters.count; l++) {
                if (isMissingOn(roll, l)) n++;
            }
            return n;
        }

        int leastMissingOn(int roll) {
            for (int l = 0; l < letters.count; l++) {
                if (isMissingOn(roll, l)) return l;
            }
            return NONE;
        }

        int forgedBy(int form, int day, int hand, int seal, int year) {
            if (forms.versionOn(form, day) < 0) return 1;
            if (!people.isAlive(hand, day)) return 2;
            int crackedOn = cracked[seal % SEALS];
            boolean hadCracked = crackedOn >= 0 && crackedOn <= day;
            boolean showsCrack = seal >= SEALS;
            if (showsCrack != hadCracked) return 3;
            return reigns.yearOn(day) != year ? 4 : 0;
        }

        boolean isFound(int form, int day, int hand) {
            for (int l = 0; l < letters.count; l++) {
                boolean isOfForm = forms.form[letters.version[l]] == form;
                if (isOfForm && letters.written[l] == day && letters.hand[l] == hand) return true;
            }
            return false;
        }

        int counted(int what) {
            switch (what) {
                case 0:
                    return today;
                case 1:
                    return reigns.count;
                case 2:
                    return people.count;
                case 3:
                    return people.stays.count;
                case 4:
                    return people.holds.count;
                case 5:
                    return forms.count;
                case 6:
                    return petitions;
                case 7:
                    return letters.count;
                case 9:
                    return entries;
                case 10:
                    return week.count;
                case 13:
                    return letters.doneCount();
                case 14:
                    return letters.voidCount();
                default:
                    return BAD;
            }
        }
    }

    /** Kings, the years of their reigns, and the feasts by which some of these go. */
    private static final class Reigns {
        int count;
        final int[] begin = new int[KINGS];
        final boolean[] isMovable = new boolean[KINGS];
        final int[] feast = new int[COMMON_YEARS];

        Reigns() {
            Arrays.fill(feast, FIRST_FEAST);
        }

        void become(Reigns other) {
            count = other.count;
            System.arraycopy(other.begin, 0, begin, 0, KINGS);
            System.arraycopy(other.isMovable, 0, isMovable, 0, KINGS);
            System.arraycopy(other.feast, 0, feast, 0, COMMON_YEARS);
        }

        boolean mayBegin(int day) {
            return count == 0 || day > begin[count - 1];
        }

        int crown(int day, boolean movable) {
            begin[count] = day;
            isMovable[count] = movable;
            return count++;
        }

        /** The king who reigns on a day, or -1. */
        int kingOn(int day) {
            for (int k = count - 1; k >= 0; k--) {
                if (begin[k] <= day) return k;
            }
            return -1;
        }

        private int lastDayOf(int king) {
            return king + 1 < count ? begin[king + 1] - 1 : DAYS - 1;
        }

        /** The first day of a king's year n as if he reigned for ever; DAYS if that is behind all days. */
        private int yearBegin(int king, int n) {
            // no reign has more years than there are common years, so larger n need no reckoning
            if (n > COMMON_YEARS) return DAYS;
            if (n <= 1) return begin[king];
            if (!isMovable[king]) return Math.min(DAYS, begin[king] + YEAR_DAYS * (n - 1));
            int common = begin[king] / YEAR_DAYS + n - 1;
            return common < COMMON_YEARS ? YEAR_DAYS * common + feast[common] : DAYS;
        }

        /** The year of the king who reigns on a day, or -1. */
        int yearOn(int day) {
            int king = kingOn(day);
            return king < 0 ? -1 : yearOn(king, day);
        }

        int yearOn(int king, int day) {
            int n = 1;
            while (n < COMMON_YEARS && yearBegin(king, n + 1) <= day) n++;
            return n;
        }

        /** The first day at or behind the begin of a king's year that has this date. */
        int firstInYear(int king, int year, int date) {
            int first = yearBegin(king, year);
            return first + Math.floorMod(date - first, YEAR_DAYS);
        }

        int timesInYear(int king, int year, int date) {
            int next = year >= COMMON_YEARS ? DAYS : yearBegin(king, year + 1);
            int last = Math.min(next - 1, lastDayOf(king));
            int first = firstInYear(king, year, date);
            return first > last ? 0 : (last - first) / YEAR_DAYS + 1;
        }
    }

    private static final class People {
        int count;
        final int[] born = new int[PERSONS];
        final int[] died = new int[PERSONS];
        final boolean[] isPoor = new boolean[PERSONS];
        final Spells stays = new Spells();
        final Spells holds = new Spells();

        void become(People other) {
            count = other.count;
            System.arraycopy(other.born, 0, born, 0, PERSONS);
            System.arraycopy(other.died, 0, died, 0, PERSONS);
            System.arraycopy(other.isPoor, 0, isPoor, 0, PERSONS);
            stays.become(other.stays);
            holds.become(other.holds);
        }

        int bear(int day) {
            born[count] = day;
            died[count] = -1;
            isPoor[count] = false;
            return count++;
        }

        /** False, too, of a number that is no person: a slip may have put one into a letter. */
        boolean isAlive(int person, int day) {
            if (!within(person, count) || day < born[person]) return false;
            return died[person] < 0 || day <= died[person];
        }

        boolean inOffice(int person, int office, int day) {
            for (int i = 0; i < holds.count; i++) {
                if (holds.isOf(i, person, day) && holds.what[i] == office) return true;
            }
            return false;
        }

        /** How a person is near a place: 1 they are, 0 they are elsewhere, 2 nothing is told. */
        int near(int person, int where, int day) {
            int near = 2;
            for (int i = 0; i < stays.count; i++) {
                if (!stays.isOf(i, person, day)) continue;
                if (stays.what[i] == where) return 1;
                near = 0;
            }
            return near;
        }

        /** What bars an office from sealing on a day, as why() tells it: 4, 5, or 0 for nothing. */
        int officeBar(int office, int day) {
            int bar = 4;
            for (int i = 0; i < count; i++) {
                if (!inOffice(i, office, day)) continue;
                if (isAlive(i, day)) return 0;
                bar = 5;
            }
            return bar;
        }
    }

    /** Stays at places, or holds of offices: who, what, from a day to a day. */
    private static final class Spells {
        int count;
        // as many as there may be stays; there are fewer holds
        final int[] who = new int[STAYS];
        final int[] what = new int[STAYS];
        final int[] first = new int[STAYS];
        final int[] last = new int[STAYS];

        void become(Spells other) {
            count = other.count;
            System.arraycopy(other.who, 0, who, 0, STAYS);
            System.arraycopy(other.what, 0, what, 0, STAYS);
            System.arraycopy(other.first, 0, first, 0, STAYS);
            System.arraycopy(other.last, 0, last, 0, STAYS);
        }

        int add(int person, int of, int from, int to) {
            who[count] = person;
            what[count] = of;
            first[count] = from;
            last[count] = to;
            count++;
            return count;
        }

        boolean isOf(int i, int person, int day) {
            return who[i] == person && first[i] <= day && day <= last[i];
        }
    }

    /** Versions of the forms, each with the table of the sets of facts that meet it. */
    private static final class Forms {
        int count;
        final int[] form = new int[VERSIONS];
        final int[] kind = new int[VERSIONS];
        final int[] itemCount = new int[VERSIONS];
        final int[][] items = new int[VERSIONS][ITEMS];
        final int[] sealCount = new int[VERSIONS];
        final int[][] seals = new int[VERSIONS][SEALS];
        final int[] fee = new int[VERSIONS];
        final int[] roll = new int[VERSIONS];
        final int[] due = new int[VERSIONS];
        final int[] from = new int[VERSIONS];
        final int[] until = new int[VERSIONS];
        final int[] width = new int[VERSIONS];
        final long[][] table = new long[VERSIONS][TABLE_WORDS];
        private final long[] anyTable = new long[TABLE_WORDS];

        void become(Forms other) {
            count = other.count;
            for (int v = 0; v < VERSIONS; v++) {
                form[v] = other.form[v];
                kind[v] = other.kind[v];
                itemCount[v] = other.itemCount[v];
                System.arraycopy(other.items[v], 0, items[v], 0, ITEMS);
                sealCount[v] = other.sealCount[v];
                System.arraycopy(other.seals[v], 0, seals[v], 0, SEALS);
                fee[v] = other.fee[v];
                roll[v] = other.roll[v];
                due[v] = other.due[v];
                from[v] = other.from[v];
                until[v] = other.until[v];
                width[v] = other.width[v];
                System.arraycopy(other.table[v], 0, table[v], 0, TABLE_WORDS);
            }
        }

        /** The text that was read becomes the version of a form, in force from today on. */
        int putInForce(int ofForm, int today, Reader read) {
            int old = versionOn(ofForm, today);
            if (old >= 0) until[old] = today;
            int v = count;
            form[v] = ofForm;
            kind[v] = read.kind;
            itemCount[v] = read.itemCount;
            System.arraycopy(read.items, 0, items[v], 0, ITEMS);
            sealCount[v] = read.sealCount;
            System.arraycopy(read.seals, 0, seals[v], 0, SEALS);
            fee[v] = read.fee;
            roll[v] = read.roll;
            due[v] = read.due;
            from[v] = today;
            until[v] = NONE;
            System.arraycopy(read.condition(), 0, table[v], 0, TABLE_WORDS);
            width[v] = 0;
            for (int w = 0; w < TABLE_WORDS; w++) width[v] += Long.bitCount(table[v][w]);
            count++;
            return v;
        }

        int told(int v, int what) {
            switch (what) {
                case 0:
                    return form[v];
                case 1:
                    return kind[v];
                case 2:
                    return itemCount[v];
                case 3:
                    return sealCount[v];
                case 4:
                    return fee[v];
                case 5:
                    return roll[v];
                case 6:
                    return due[v];
                case 7:
                    return from[v];
                case 8:
                    return until[v];
                case 9:
                    return width[v];
                default:
                    if (what >= 10 && what < 10 + itemCount[v]) return items[v][what - 10];
                    return what >= 30 && what < 30 + sealCount[v] ? seals[v][what - 30] : BAD;
            }
        }

        boolean inForce(int v, int day) {
            return from[v] <= day && (until[v] < 0 || day < until[v]);
        }

        /** The version of a form that is in force on a day, or -1. */
        int versionOn(int ofForm, int day) {
            for (int v = 0; v < count; v++) {
                if (form[v] == ofForm && inForce(v, day)) return v;
            }
            return -1;
        }

        private static boolean isMarked(long[] sets, int set) {
            return (sets[set >> 6] >>> (set & 63) & 1L) != 0;
        }

        boolean meets(int v, int facts) {
            return isMarked(table[v], facts);
        }

        boolean isBarred(int v, int facts, int day) {
            return inForce(v, day) && !meets(v, facts);
        }

        /** The least fact that changed alone would make a version fit, or -1. */
        int bar(int v, int facts) {
            for (int f = 0; f < FACTS; f++) {
                if (meets(v, facts ^ 1 << f)) return f;
            }
            return -1;
        }

        /** The narrowest version in force on a day that facts fit, or -1. */
        int narrowest(int facts, int day) {
            int best = -1;
            for (int v = 0; v < count; v++) {
                if (!inForce(v, day) || !meets(v, facts)) continue;
                if (best < 0 || width[v] < width[best]) best = v;
            }
            return best;
        }

        /** The fewest facts more with which some version in force would fit, as bits, or -1. */
        int lacking(int facts, int day) {
            markAnyInForce(day);
            int best = -1;
            for (int more = 0; more < SETS; more++) {
                if ((more & facts) != 0 || !isMarked(anyTable, more | facts)) continue;
                if (best < 0 || Integer.bitCount(more) < Integer.bitCount(best)) best = more;
            }
            return best;
        }

        private void markAnyInForce(int day) {
            Arrays.fill(anyTable, 0L);
            for (int v = 0; v < count; v++) {
                if (!inForce(v, day)) continue;
                for (int w = 0; w < TABLE_WORDS; w++) anyTable[w] |= table[v][w];
            }
        }
    }

    private static final class Letters {
        private final Forms forms;
        private final People people;
        int count;
        final int[] version = new int[LETTERS];
        final int[] petition = new int[LETTERS];
        final int[] hand = new int[LETTERS];
        final int[] written = new int[LETTERS];
        final int[] wordCount = new int[LETTERS];
        final int[][] words = new int[LETTERS][WORDS];
        final int[] sealCount = new int[LETTERS];
        // the day of the last seal; that of the writing while there is none
        final int[] sealedOn = new int[LETTERS];
        final int[] inner = new int[LETTERS];
        final int[] standsFor = new int[LETTERS];
        final int[] backOn = new int[LETTERS];
        final int[] place = new int[LETTERS];
        final int[] witnessCount = new int[LETTERS];
        final int[][] witness = new int[LETTERS][WITNESSES];
        final int[][] witnessOffice = new int[LETTERS][WITNESSES];

        Letters(Forms forms, People people) {
            this.forms = forms;
            this.people = people;
        }

        void become(Letters other) {
            count = other.count;
            for (int l = 0; l < LETTERS; l++) {
                version[l] = other.version[l];
                petition[l] = other.petition[l];
                hand[l] = other.hand[l];
                written[l] = other.written[l];
                wordCount[l] = other.wordCount[l];
                System.arraycopy(other.words[l], 0, words[l], 0, WORDS);
                sealCount[l] = other.sealCount[l];
                sealedOn[l] = other.sealedOn[l];
                inner[l] = other.inner[l];
                standsFor[l] = other.standsFor[l];
                backOn[l] = other.backOn[l];
                place[l] = other.place[l];
                witnessCount[l] = other.witnessCount[l];
                System.arraycopy(other.witness[l], 0, witness[l], 0, WITNESSES);
                System.arraycopy(other.witnessOffice[l], 0, witnessOffice[l], 0, WITNESSES);
            }
        }

        int write(int by, int v, int ofPetition, int today) {
            int l = count;
            version[l] = v;
            petition[l] = ofPetition;
            hand[l] = by;
            written[l] = today;
            wordCount[l] = forms.itemCount[v];
            for (int i = 0; i < forms.itemCount[v]; i++) {
                int item = forms.items[v][i];
                words[l][i] = item < NUMBERS ? item : -1;
            }
            sealCount[l] = 0;
            sealedOn[l] = today;
            inner[l] = -1;
            standsFor[l] = -1;
            backOn[l] = -1;
            place[l] = 0;
            witnessCount[l] = 0;
            count++;
            return l;
        }

        int told(int l, int what) {
            switch (what) {
                case 0:
                    return kindOf(l);
                case 1:
                    return version[l];
                case 2:
                    return petition[l];
                case 3:
                    return hand[l];
                case 4:
                    return written[l];
                case 5:
                    return wordCount[l];
                case 6:
                    return sealCount[l];
                case 7:
                    return doneOn(l);
                case 8:
                    return inner[l] < 0 ? NONE : inner[l];
                case 9:
                    return depth(l);
                case 10:
                    return standsFor[l] < 0 ? NONE : standsFor[l];
                case 11:
                    return mender(l) < 0 ? NONE : mender(l);
                case 12:
                    return hangingOn(l);
                default:
                    return BAD;
            }
        }

        int kindOf(int l) {
            return inner[l] >= 0 ? INSPECTED : forms.kind[version[l]];
        }

        int ownWords(int l) {
            return forms.itemCount[version[l]];
        }

        /** The item of the version at a word of a letter; -1 where there is none. */
        int itemAt(int l, int i) {
            return within(i, ownWords(l)) ? forms.items[version[l]][i] : -1;
        }

        /** The first word by which a letter is void, or -1. */
        int voidWord(int l) {
            for (int i = 0; i < ownWords(l); i++) {
                if (!isRight(forms.items[version[l]][i], words[l][i], written[l])) return i;
            }
            return -1;
        }

        private boolean isRight(int item, int word, int day) {
            if (item < NUMBERS) return word == item;
            return word >= 0 && (item != PERSON || people.isAlive(word, day));
        }

        int voidCount() {
            int n = 0;
            for (int l = 0; l < count; l++) {
                if (voidWord(l) >= 0) n++;
            }
            return n;
        }

        /** The letter that stands for this one, or -1. */
        int mender(int l) {
            for (int m = 0; m < count; m++) {
                if (standsFor[m] == l) return m;
            }
            return -1;
        }

        int setIn(int l, int older) {
            int own = wordCount[l];
            System.arraycopy(words[older], 0, words[l], own, wordCount[older]);
            wordCount[l] = own + wordCount[older];
            inner[l] = older;
            return wordCount[l];
        }

        // a letter set in is always older, so going inwards ends within as many steps as there are letters

        int depth(int l) {
            int depth = 0;
            for (int at = inner[l]; at >= 0 && depth < LETTERS; at = inner[at]) depth++;
            return depth;
        }

        private boolean hangs(int l, int on) {
            int steps = 0;
            for (int at = inner[l]; at >= 0 && steps < LETTERS; at = inner[at]) {
                if (at == on) return true;
                steps++;
            }
            return false;
        }

        int hangingOn(int on) {
            int n = 0;
            for (int l = 0; l < count; l++) {
                if (hangs(l, on)) n++;
            }
            return n;
        }

        private boolean hangsOnPetition(int l, int p) {
            int steps = 0;
            for (int at = inner[l]; at >= 0 && steps < LETTERS; at = inner[at]) {
                if (petition[at] == p) return true;
                steps++;
            }
            return false;
        }

        int hangingOnPetition(int p) {
            int n = 0;
            for (int l = 0; l < count; l++) {
                if (hangsOnPetition(l, p)) n++;
            }
            return n;
        }

        /** Whether word i of a letter is of what is set in, and not as in the older letter now. */
        private boolean isUnlike(int l, int i) {
            int older = inner[l], at = i - ownWords(l);
            if (older < 0 || at < 0 || i >= wordCount[l] || at >= wordCount[older]) return false;
            return words[l][i] != words[older][at];
        }

        /** The first word that is not as in the older letter, or -1. */
        int firstUnlike(int l) {
            for (int i = 0; i < wordCount[l]; i++) {
                if (isUnlike(l, i)) return i;
            }
            return -1;
        }

        /** The letter whose copy began the unlike word i. */
        int beginner(int l, int i) {
            int at = l, word = i;
            for (int steps = 0; steps < LETTERS; steps++) {
                int older = inner[at], same = word - ownWords(at);
                if (older < 0 || !isUnlike(older, same)) return at;
                at = older;
                word = same;
            }
            return at;
        }

        /** The day on which a letter was done, or NONE. */
        int doneOn(int l) {
            return sealCount[l] >= forms.sealCount[version[l]] ? sealedOn[l] : NONE;
        }

        int doneCount() {
            int n = 0;
            for (int l = 0; l < count; l++) {
                if (doneOn(l) >= 0) n++;
            }
            return n;
        }

        /** What bars the next seal on a day, as why() tells it. */
        int sealBar(int l, int day) {
            if (doneOn(l) >= 0) return 1;
            if (voidWord(l) >= 0) return 2;
            if (day < sealedOn[l]) return 3;
            return people.officeBar(forms.seals[version[l]][sealCount[l]], day);
        }

        int setSeal(int l, int day) {
            sealedOn[l] = day;
            sealCount[l]++;
            return sealCount[l];
        }

        int addWitness(int l, int person, int office) {
            int i = witnessCount[l];
            witness[l][i] = person;
            witnessOffice[l][i] = office;
            witnessCount[l] = i + 1;
            return i + 1;
        }

        /** Why a witness could not have been there, as could() tells it. */
        int witnessFault(int l, int i) {
            int person = witness[l][i], office = witnessOffice[l][i], day = written[l];
            if (!people.isAlive(person, day)) return 1;
            if (office < OFFICES && !people.inOffice(person, office, day)) return 2;
            int near = people.near(person, place[l], day);
            if (near == 0) return 3;
            return near == 1 ? 0 : 4;
        }

        boolean isDoneWrit(int l) {
            return kindOf(l) == WRIT && doneOn(l) >= 0;
        }

        /** The day by which a writ that is done returns. */
        int backBy(int l) {
            int due = doneOn(l) + forms.due[version[l]];
            return Math.min(DAYS - 1, due / TERM_DAYS * TERM_DAYS + TERM_DAYS - 1);
        }
    }

    /** The tasks of a week and the plan that gives them to clerks. */
    private static final class Week {
        int count;
        final int[] length = new int[TASKS];
        final int[] due = new int[TASKS];
        int late;
        int lateDays;
        final int[] clerk = new int[TASKS];
        private final int[] trial = new int[TASKS];
        private final int[] busy = new int[CLERKS];

        void become(Week other) {
            count = other.count;
            System.arraycopy(other.length, 0, length, 0, TASKS);
            System.arraycopy(other.due, 0, due, 0, TASKS);
        }

        int add(int days, int dueDay) {
            length[count] = days;
            due[count] = dueDay;
            count++;
            return count;
        }

        int bound() {
            int n = 0;
            for (int t = 0; t < count; t++) {
                if (length[t] > due[t]) n++;
            }
            return n;
        }

        void makePlan(int clerks) {
            late = TASKS + 1;
            lateDays = 0;
            Arrays.fill(busy, 0);
            tryFrom(0, clerks, 0, 0);
        }

        /**
         * Tries all plans for task t and those behind it. Lesser clerks are tried first and only a
         * better plan is taken, so that of several equals the one with the lesser clerks stays.
         */
        private void tryFrom(int t, int clerks, int lateSoFar, int daysSoFar) {
            if (lateSoFar > late || lateSoFar == late && daysSoFar >= lateDays) return;
            if (t >= count || t >= TASKS) {
                late = lateSoFar;
                lateDays = daysSoFar;
                System.arraycopy(trial, 0, clerk, 0, TASKS);
                return;
            }
            for (int c = 0; c < clerks && c < CLERKS; c++) {
                busy[c] += length[t];
                trial[t] = c;
                int over = Math.max(0, busy[c] - due[t]);
                tryFrom(t + 1, clerks, over > 0 ? lateSoFar + 1 : lateSoFar, daysSoFar + over);
                busy[c] -= length[t];
            }
        }
    }

    /** The tape, and the reading of it as the text of a form. */
    private static final class Reader {
        private static final int END = 0, NAME = 1, NUMBER = 2, SIGN = 3;
        private static final int SAY = 0, KIND = 1, WANTS = 2, SEALED = 3, FEE = 4, ROLL = 5, DUE = 6;
        private static final int PARTS = 7, ONE = 3, MOST_DIGITS = 3;

        private final byte[] tape = new byte[TAPE];
        int length;
        // the token that is looked at: what it is, where it begins and ends, and its number (-1: none as told)
        private int token;
        private int at;
        private int end;
        private int number;
        private int partsTold;
        int kind;
        int itemCount;
        final int[] items = new int[ITEMS];
        int sealCount;
        final int[] seals = new int[SEALS];
        int fee;
        int roll;
        int due;
        private final Tables tables = new Tables();
        private final int[] times = new int[FACTS];

        boolean takes(long eight, int n) {
            if (length + n > TAPE) return false;
            for (int i = 0; i < n; i++) tape[length + i] = (byte) (eight >>> 8 * i);
            length += n;
            return true;
        }

        void empty() {
            length = 0;
        }

        /** The place of the fault, or -1 if the tape is a text; it is used up. */
        int parse() {
            partsTold = 0;
            kind = LETTER;
            itemCount = 0;
            sealCount = 0;
            fee = 0;
            roll = NONE;
            due = 0;
            tables.startWithAll();
            end = 0;
            step();
            boolean goesOn = true;
            for (int parts = 0; goesOn && token != END && parts <= PARTS; parts++) {
                goesOn = part() && passSign(';');
            }
            empty();
            return goesOn && itemCount > 0 ? -1 : at;
        }

        /** The table of the sets of facts that meet the text read last. */
        long[] condition() {
            return tables.first();
        }

        private void step() {
            int i = end;
            while (i < length && tape[i] == ' ') i++;
            at = i;
            number = -1;
            if (i >= length) {
                token = END;
            } else if (tape[i] >= 'a' && tape[i] <= 'z') {
                token = NAME;
                while (i < length && tape[i] >= 'a' && tape[i] <= 'z') i++;
            } else if (tape[i] >= '0' && tape[i] <= '9') {
                token = NUMBER;
                int sum = 0;
                while (i < length && tape[i] >= '0' && tape[i] <= '9') {
                    // of a longer row no sum is wanted, and none must wrap
                    if (i < at + MOST_DIGITS) sum = 10 * sum + tape[i] - '0';
                    i++;
                }
                if (i <= at + MOST_DIGITS) number = sum;
            } else {
                token = SIGN;
                i++;
            }
            end = i;
        }

        private boolean isName(String name) {
            if (token != NAME || end - at != name.length()) return false;
            for (int i = 0; i < name.length(); i++) {
                if (tape[at + i] != name.charAt(i)) return false;
            }
            return true;
        }

        private boolean passSign(char sign) {
            if (token != SIGN || tape[at] != sign) return false;
            step();
            return true;
        }

        private boolean passName(String name) {
            if (!isName(name)) return false;
            step();
            return true;
        }

        /** The number that is looked at, which is passed; -1 if it is none up to this one. */
        private int passNumber(int most) {
            int it = number;
            if (it < 0 || it > most) return -1;
            step();
            return it;
        }

        // Each of the following passes what it reads and answers whether it was there; if not, the
        // token that is looked at is the one at fault.

        private int partNamed() {
            if (isName("say")) return SAY;
            if (isName("kind")) return KIND;
            if (isName("wants")) return WANTS;
            if (isName("seals")) return SEALED;
            if (isName("fee")) return FEE;
            if (isName("roll")) return ROLL;
            return isName("due") ? DUE : -1;
        }

        private boolean part() {
            int part = partNamed();
            if (part < 0 || (partsTold >> part & 1) != 0) return false;
            partsTold |= 1 << part;
            step();
            switch (part) {
                case SAY:
                    return itemRow();
                case KIND:
                    kind = kindNamed();
                    if (kind >= 0) step();
                    return kind >= 0;
                case WANTS:
                    tables.start();
                    return cond(0, 0);
                case SEALED:
                    return sealRow();
                case FEE:
                    fee = passNumber(NUMBERS - 1);
                    return fee >= 0;
                case ROLL:
                    roll = passNumber(ROLLS - 1);
                    return roll >= 0;
                default:
                    due = passNumber(NUMBERS - 1);
                    return due >= 0;
            }
        }

        private int kindNamed() {
            if (isName("letter")) return LETTER;
            if (isName("close")) return CLOSE;
            if (isName("patent")) return PATENT;
            if (isName("charter")) return CHARTER;
            if (isName("writ")) return WRIT;
            return isName("warrant") ? WARRANT : -1;
        }

        private int itemNamed() {
            if (isName("person")) return PERSON;
            if (isName("land")) return LAND;
            return isName("amount") ? AMOUNT : number;
        }

        private boolean itemRow() {
            for (int i = 0; i < ITEMS; i++) {
                int item = itemNamed();
                if (item < 0) return i > 0;
                items[i] = item;
                itemCount = i + 1;
                step();
            }
            return true;
        }

        private boolean sealRow() {
            int told = 0;
            for (int i = 0; i < SEALS; i++) {
                if (number < 0 || number >= SEALS || (told >> number & 1) != 0) return i > 0;
                told |= 1 << number;
                seals[i] = number;
                sealCount = i + 1;
                step();
            }
            return true;
        }

        /** What joins the parts of a COND (level 0), an ANY (1), an ALL (2). */
        private boolean passJoiner(int level) {
            if (level == 0) return passName("unless");
            return passName(level == 1 ? "or" : "and");
        }

        /** A COND, ANY, ALL or ONE (levels 0 to 3) within so many brackets; its table comes on top. */
        private boolean cond(int open, int level) {
            if (level >= ONE) return one(open);
            if (!cond(open, level + 1)) return false;
            int most = level == 0 ? 1 : TAPE;
            for (int i = 0; i < most && passJoiner(level); i++) {
                if (!cond(open, level + 1)) return false;
                if (level == 0) tables.unless();
                else if (level == 1) tables.or();
                else tables.and();
            }
            return true;
        }

        private boolean one(int open) {
            boolean isNot = false;
            for (int i = 0; i < TAPE && passName("not"); i++) isNot = !isNot;
            if (passName("fact")) {
                int fact = passNumber(FACTS - 1);
                if (fact < 0) return false;
                tables.pushFact(fact);
            } else if (passName("most")) {
                if (!mostOf()) return false;
            } else {
                if (open >= MOST_OPEN || !passSign('(')) return false;
                if (!cond(open + 1, 0) || !passSign(')')) return false;
            }
            if (isNot) tables.not();
            return true;
        }

        private boolean mostOf() {
            int least = passNumber(FACTS);
            if (least < 0 || !passSign('(')) return false;
            Arrays.fill(times, 0);
            for (int i = 0; i < FACTS; i++) {
                int fact = passNumber(FACTS - 1);
                if (fact < 0) return false;
                times[fact]++;
                if (passSign(')')) {
                    tables.pushMost(least, times);
                    return true;
                }
            }
            return false;
        }
    }

    /**
     * A stack of tables, each with a bit for each of the 4096 sets of facts: whether the set meets a
     * condition. So a condition is reckoned for 64 sets at once, and its width is a count of bits.
     */
    private static final class Tables {
        // the sets of 64 that have facts 0 to 5; the other facts are the same in all 64
        private static final long[] PATTERNS = {
            0xAAAAAAAAAAAAAAAAL, 0xCCCCCCCCCCCCCCCCL, 0xF0F0F0F0F0F0F0F0L,
            0xFF00FF00FF00FF00L, 0xFFFF0000FFFF0000L, 0xFFFFFFFF00000000L};
        // three wait in each of six nested conditions (for unless, or, and), and one is on top
        private static final int DEEPEST = 19;

        private final long[][] table = new long[DEEPEST][TABLE_WORDS];
        private int height;

        void start() {
            height = 0;
        }

        void startWithAll() {
            height = 1;
            Arrays.fill(table[0], -1L);
        }

        long[] first() {
            return table[0];
        }

        private static long factWord(int fact, int w) {
            if (fact >= 0 && fact < PATTERNS.length) return PATTERNS[fact];
            return -(long) (w >> fact - PATTERNS.length & 1);
        }

        void pushFact(int fact) {
            if (height >= DEEPEST) return;
            for (int w = 0; w < TABLE_WORDS; w++) table[height][w] = factWord(fact, w);
            height++;
        }

        /**
         * The sets that have least or more of the facts, each counted so many times. Each set's counter
         * has one bit in each of five words, and begins so that it reaches 16 with the least.
         */
        void pushMost(int least, int[] times) {
            if (height >= DEEPEST) return;
            int begin = 16 - least;
            for (int w = 0; w < TABLE_WORDS; w++) {
                long ones = -(long) (begin & 1), twos = -(long) (begin >> 1 & 1);
                long fours = -(long) (begin >> 2 & 1), eights = -(long) (begin >> 3 & 1);
                long sixteens = -(long) (begin >> 4 & 1);
                for (int fact = 0; fact < times.length; fact++) {
                    long has = factWord(fact, w);
                    for (int i = 0; i < times[fact]; i++) {
                        long carryTwo = ones & has;
                        long carryFour = twos & carryTwo;
                        long carryEight = fours & carryFour;
                        sixteens ^= eights & carryEight;
                        eights ^= carryEight;
                        fours ^= carryFour;
                        twos ^= carryTwo;
                        ones ^= has;
                    }
                }
                table[height][w] = sixteens;
            }
            height++;
        }

        void not() {
            if (height < 1) return;
            for (int w = 0; w < TABLE_WORDS; w++) table[height - 1][w] = ~table[height - 1][w];
        }

        void and() {
            if (height < 2) return;
            height--;
            for (int w = 0; w < TABLE_WORDS; w++) table[height - 1][w] &= table[height][w];
        }

        void or() {
            if (height < 2) return;
            height--;
            for (int w = 0; w < TABLE_WORDS; w++) table[height - 1][w] |= table[height][w];
        }

        void unless() {
            if (height < 2) return;
            height--;
            for (int w = 0; w < TABLE_WORDS; w++) table[height - 1][w] &= ~table[height][w];
        }
    }

    /** What a letter does, by its kind: the bodies of a kind and of those it is under. */
    private static final class Acts {
        private int words;
        private int petition;
        private int version;
        private int self;
        private boolean isPartedBy0;
        final int[] body = new int[BODIES];
        int bodies;

        /** The kind that a kind is right under; -1 of a letter. It is always a lesser number. */
        private static int above(int kind) {
            switch (kind) {
                case CLOSE:
                case PATENT:
                case WARRANT:
                    return LETTER;
                case CHARTER:
                    return PATENT;
                case INSPECTED:
                    return CHARTER;
                case WRIT:
                    return CLOSE;
                default:
                    return -1;
            }
        }

        static boolean isUnder(int kind, int as) {
            int at = kind;
            for (int steps = 0; steps < KINDS && at >= 0; steps++) {
                if (at == as) return true;
                at = above(at);
            }
            return false;
        }

        void clearTrace() {
            bodies = 0;
        }

        void take(int letterWords, int letterPetition, int letterVersion) {
            words = letterWords;
            petition = letterPetition;
            version = letterVersion;
        }

        int run(int kind, int act, int x) {
            self = kind;
            isPartedBy0 = false;
            int answer = start(act, x);
            return isPartedBy0 ? PARTED_BY_0 : answer;
        }

        private int start(int act, int x) {
            switch (act) {
                case 0:
                    return moves(self, x);
                case 1:
                    return binds(self, x);
                case 2:
                    return ends(self, x);
                default:
                    return enrols(self, x);
            }
        }

        private void begins(int number) {
            if (bodies < BODIES) {
                body[bodies] = number;
                bodies++;
            }
        }

        // Each of the following runs the body of a kind, or that of the nearest kind above that has one.
        // It calls itself with lesser kinds only, so it goes no deeper than the kinds do.

        private int moves(int kind, int x) {
            switch (kind) {
                case PATENT:
                    begins(30);
                    return moves(above(kind), x) * 2;
                case INSPECTED:
                    begins(50);
                    return moves(above(kind), x) - 7;
                case WARRANT:
                    begins(70);
                    return -moves(above(kind), x);
                case CLOSE:
                case CHARTER:
                case WRIT:
                    return moves(above(kind), x);
                default:
                    begins(10);
                    return x + words;
            }
        }

        private int binds(int kind, int x) {
            switch (kind) {
                case CLOSE:
                    begins(20);
                    return binds(above(kind), x) ^ version;
                case INSPECTED:
                    begins(51);
                    return binds(above(kind), x) + moves(self, 0);
                case PATENT:
                case CHARTER:
                case WRIT:
                case WARRANT:
                    return binds(above(kind), x);
                default:
                    begins(11);
                    return moves(self, x) * 3;
            }
        }

        private int ends(int kind, int x) {
            switch (kind) {
                case CHARTER:
                    begins(40);
                    return ends(above(kind), x) + moves(self, 1);
                case WRIT:
                    begins(60);
                    return ends(above(kind), x) - binds(self, 2);
                case CLOSE:
                case PATENT:
                case INSPECTED:
                case WARRANT:
                    return ends(above(kind), x);
                default:
                    begins(12);
                    return binds(self, x) - petition;
            }
        }

        private int enrols(int kind, int x) {
            switch (kind) {
                case PATENT:
                    begins(31);
                    return enrols(above(kind), x + 1) + petition;
                case WRIT:
                    begins(61);
                    return -enrols(above(kind), x);
                case CLOSE:
                case CHARTER:
                case INSPECTED:
                case WARRANT:
                    return enrols(above(kind), x);
                default:
                    begins(13);
                    isPartedBy0 = words == 4;
                    return isPartedBy0 ? 0 : x / (words - 4);
            }
        }
    }

    /** Sheets, the shelves that hold their rows or letters, and the joining of words to a sheet. */
    private static final class Sheets {
        private static final int HOLDS_NOTHING = 0, HOLDS_LETTER = 1, HOLDS_ROW = 2;

        // -1: the sheet is missing
        final int[] sort = new int[SHEETS];
        final int[] size = new int[SHEETS];
        // narrowed to the sort when they are put; a long never holds more than the int that was put
        final int[][] items = new int[SHEETS][SHEET_SIZE];
        private final int[] shelfHolds = new int[SHELVES];
        final int[] shelfSort = new int[SHELVES];
        // the letter, or how many items the row has: a shelf keeps its row when the sheet gets another
        final int[] shelfNumber = new int[SHELVES];
        private final int[][] cost = new int[WORDS + 1][SHEET_SIZE + 1];
        private final int[] steps = new int[4];

        Sheets() {
            Arrays.fill(sort, -1);
        }

        void lay(int sheet, int ofSort, int n) {
            sort[sheet] = ofSort;
            size[sheet] = n;
            Arrays.fill(items[sheet], 0);
        }

        void setItem(int sheet, int i, int v) {
            switch (sort[sheet]) {
                case 0:
                    items[sheet][i] = (byte) v;
                    break;
                case 1:
                    items[sheet][i] = (short) v;
                    break;
                case 4:
                    items[sheet][i] = v != 0 ? 1 : 0;
                    break;
                default:
                    items[sheet][i] = v;
            }
        }

        /** How a sheet taken for a sort is refused; 0 if it isn't. */
        int refusal(int sheet, int as) {
            if (sort[sheet] < 0) return NOTHING;
            return sort[sheet] != as ? OTHER_KIND : 0;
        }

        void shelveLetter(int shelf, int letter) {
            shelfHolds[shelf] = HOLDS_LETTER;
            shelfNumber[shelf] = letter;
        }

        void shelveRow(int shelf, int sheet) {
            shelfHolds[shelf] = sort[sheet] < 0 ? HOLDS_NOTHING : HOLDS_ROW;
            shelfSort[shelf] = sort[sheet];
            shelfNumber[shelf] = size[sheet];
        }

        void clearShelf(int shelf) {
            shelfHolds[shelf] = HOLDS_NOTHING;
        }

        boolean holdsLetter(int shelf) {
            return shelfHolds[shelf] == HOLDS_LETTER;
        }

        boolean holdsRow(int shelf) {
            return shelfHolds[shelf] == HOLDS_ROW;
        }

        /** The join of words and a sheet: all its steps (0), words dropped, numbers added, unlike ones (3). */
        int joined(int[] words, int wordCount, int sheet, int what) {
            int m = Math.min(wordCount, WORDS), n = Math.min(size[sheet], SHEET_SIZE);
            int[] numbers = items[sheet];
            reckonCosts(words, m, numbers, n);
            Arrays.fill(steps, 0);
            steps[0] = cost[0][0];
            int i = 0, j = 0;
            for (int step = 0; step < WORDS + SHEET_SIZE && (i < m || j < n); step++) {
                if (i < m && j < n && cost[i][j] == bothCost(words, i, numbers, j)) {
                    if (words[i] != numbers[j]) steps[3]++;
                    i++;
                    j++;
                } else if (i < m && cost[i][j] == cost[i + 1][j] + 1) {
                    steps[1]++;
                    i++;
                } else {
                    steps[2]++;
                    j++;
                }
            }
            return steps[what];
        }

        /** The cost at i, j is that of joining the words from i on and the numbers from j on. */
        private void reckonCosts(int[] words, int m, int[] numbers, int n) {
            for (int i = m; i >= 0; i--) {
                for (int j = n; j >= 0; j--) {
                    if (i == m || j == n) {
                        cost[i][j] = m - i + n - j;
                        continue;
                    }
                    int one = Math.min(cost[i + 1][j], cost[i][j + 1]) + 1;
                    cost[i][j] = Math.min(one, bothCost(words, i, numbers, j));
                }
            }
        }

        private int bothCost(int[] words, int i, int[] numbers, int j) {
            return cost[i + 1][j + 1] + (words[i] == numbers[j] ? 0 : 1);
        }
    }
}
