/**
 * Credit for crimes: punishments served ahead, and the deeds one is owed for them.
 *
 * What each call promises stands in ../shared/DOC.md; words in capitals there are
 * used here in the same sense. No call throws: what is refused is answered by one
 * of the constants below. All rows are made with the object and used again, so that
 * no call makes anything.
 */
public final class ServedAhead {
    public static final int NONE = -1, UNKNOWN = -101, OUTSIDE = -102, STATE = -103, FULL = -104;

    private static final int DEEDS = 4;
    private static final int SORTS = 3;
    private static final int PEOPLE = 4;
    private static final int ROOM = 12;
    private static final int LETTERS = 30;
    private static final int LEAST_CODE = 32;
    private static final int MOST_CODE = 126;
    private static final int MOST_TERM = 9;
    private static final int MOST_SERVED = 9;
    private static final int GAIN_WEEKS = 6;
    private static final int GAINS = 60;
    private static final int BOOK_WEEKS = 5;
    private static final int MOST_GOT = 999;
    private static final int WALKS = 40;
    private static final int YEAR_WEEKS = 60;
    private static final int TOLD_OF_DEED = 3;
    private static final int TOLD_OF_PERSON = 10;
    private static final int TOLD_OF_ALL = 12;

    /** What stands for a week without an ACT. */
    private static final int NO_ACT = 9;
    /** All ACTS, in the order in which YEARS draws them; those of GAIN come first. */
    private static final int[] ACTS = {0, 1, 2, 10, 11, 12, 13, 20, 21, 22, 23};
    private static final int LAWFUL_ACTS = 7;
    private static final int DRAWS = 12;

    private final Page page = new Page();
    private final Law statute = new Law();
    private final Town town = new Town();
    private final Town picture = new Town();
    private final Town trial = new Town();
    private final Person spare = new Person();
    private final Hunt hunt = new Hunt();
    private final Ledger ledger = new Ledger();
    private boolean pictured;
    private int lawsRead;
    private int gainsDone;
    private int walksDone;

    public ServedAhead() {
    }

    // ---- the law

    public int letter(int code) {
        if (code < LEAST_CODE || code > MOST_CODE) {
            return OUTSIDE;
        }
        if (!page.hasRoom()) {
            return FULL;
        }
        page.write(code);
        return page.size;
    }

    public int blank() {
        int had = page.size;
        page.size = 0;
        return had;
    }

    public int fault() {
        return page.firstFault();
    }

    public int law() {
        if (!page.isLaw()) {
            return STATE;
        }
        statute.copy(page.draft);
        lawsRead++;
        page.size = 0;
        ledger.close();
        town.dropLapsed(statute);
        return statute.allTerms();
    }

    public int deed(int deed, int what) {
        if (!isDeed(deed)) {
            return UNKNOWN;
        }
        if (what < 0 || what >= TOLD_OF_DEED) {
            return OUTSIDE;
        }
        if (lawsRead == 0) {
            return STATE;
        }
        if (what == 0) {
            return statute.termOf(deed);
        }
        return what == 1 ? statute.worthOf(deed) : statute.sortsOf(deed);
    }

    // ---- people

    public int person(int kind) {
        if (!Kind.isNumber(kind)) {
            return OUTSIDE;
        }
        if (lawsRead == 0) {
            return STATE;
        }
        if (!town.hasRoom()) {
            return FULL;
        }
        return town.welcome(Kind.numbered(kind));
    }

    public int about(int person, int what) {
        if (!town.isKnown(person)) {
            return UNKNOWN;
        }
        if (what < 0 || what >= TOLD_OF_PERSON) {
            return OUTSIDE;
        }
        return town.one(person).told(what);
    }

    public int as(int person, int kind) {
        if (!town.isKnown(person)) {
            return UNKNOWN;
        }
        if (!Kind.isNumber(kind)) {
            return OUTSIDE;
        }
        return town.one(person).kind.isA(Kind.numbered(kind)) ? person : NONE;
    }

    public int may(int person, int act) {
        if (!town.isHere(person) || !isAct(act)) {
            return UNKNOWN;
        }
        return town.one(person).isFreeTo(act, statute) ? 1 : 0;
    }

    public int act(int person, int act) {
        if (!town.isHere(person) || !isAct(act)) {
            return UNKNOWN;
        }
        Person one = town.one(person);
        if (!one.isFreeTo(act, statute)) {
            return STATE;
        }
        one.does(act, statute, town.week);
        return one.got;
    }

    public int week() {
        town.passWeek(statute);
        return town.week;
    }

    public int sell(int a, int b, int sort) {
        if (!arePair(a, b) || sort < 0 || sort >= SORTS) {
            return UNKNOWN;
        }
        Credits from = town.one(a).credits;
        Credits to = town.one(b).credits;
        int when = from.oldestWeek(1 << sort);
        if (when == NONE) {
            return STATE;
        }
        if (!to.hasRoom()) {
            return FULL;
        }
        from.dropOldest(1 << sort, 1);
        to.give(sort, when);
        return when;
    }

    public int leave(int a, int b) {
        if (!arePair(a, b)) {
            return UNKNOWN;
        }
        Person leaver = town.one(a);
        leaver.gone = true;
        leaver.owes = 0;
        return leaver.credits.moveTo(town.one(b).credits);
    }

    public int amnesty() {
        return town.forgive();
    }

    // ---- what would be

    public int gain(int person, int weeks, int what) {
        if (!town.isHere(person)) {
            return UNKNOWN;
        }
        if (weeks < 0 || weeks > GAIN_WEEKS || what < 0 || what > 1) {
            return OUTSIDE;
        }
        if (gainsDone >= GAINS) {
            return STATE;
        }
        gainsDone++;
        hunt.start(town.one(person), statute, town.week, weeks);
        return what == 0 ? hunt.best : hunt.first;
    }

    public int soon(int person, int deed) {
        if (!town.isHere(person) || !isDeed(deed)) {
            return UNKNOWN;
        }
        if (town.one(person).owes > 0) {
            return STATE;
        }
        int fewest = NONE;
        for (int sort = 0; sort < SORTS; sort++) {
            if ((statute.sortsOf(deed) & 1 << sort) != 0) {
                int weeks = weeksOfServing(town.one(person), deed, sort);
                fewest = fewest == NONE || weeks != NONE && weeks < fewest ? weeks : fewest;
            }
        }
        return fewest;
    }

    public int kept(int deed) {
        if (!isDeed(deed)) {
            return UNKNOWN;
        }
        if (lawsRead == 0) {
            return STATE;
        }
        for (int term = 1; term <= MOST_TERM; term++) {
            if (!town.someoneCovered(deed, term, statute)) {
                return term;
            }
        }
        return NONE;
    }

    // ---- a book

    public int book(int person) {
        if (!town.isHere(person)) {
            return UNKNOWN;
        }
        if (town.one(person).acted) {
            return STATE;
        }
        int had = ledger.size;
        ledger.open(town.one(person), town.week);
        return had;
    }

    public int next(int got) {
        if (!ledger.begun) {
            return STATE;
        }
        if (got < 0 || got > MOST_GOT) {
            return OUTSIDE;
        }
        if (!ledger.hasRoom()) {
            return FULL;
        }
        ledger.write(got);
        return ledger.size;
    }

    public int ways() {
        if (!ledger.begun || walksDone >= WALKS) {
            return STATE;
        }
        walksDone++;
        ledger.walk(statute);
        return ledger.found;
    }

    public int owed() {
        if (!ledger.begun || walksDone >= WALKS) {
            return STATE;
        }
        walksDone++;
        ledger.walk(statute);
        return ledger.mostOwed;
    }

    public int years(int weeks, int seed, int what) {
        if (weeks < 1 || weeks > YEAR_WEEKS || seed < 0 || what < 0 || what > 3) {
            return OUTSIDE;
        }
        if (lawsRead == 0) {
            return STATE;
        }
        trial.copy(town);
        trial.live(weeks, seed, statute);
        switch (what) {
            case 0: return trial.allGot();
            case 1: return trial.allOwed();
            case 2: return trial.deedsDone;
            default: return trial.seed;
        }
    }

    // ---- what is told of all

    public int image() {
        picture.copy(town);
        pictured = true;
        return town.week;
    }

    public int restore() {
        if (!pictured) {
            return STATE;
        }
        town.copy(picture);
        town.dropLapsed(statute);
        ledger.close();
        return town.week;
    }

    public int count(int what) {
        switch (what) {
            case 0: return statute.lapse;
            case 1: return town.size;
            case 2: return town.allGone();
            case 3: return town.week;
            case 4: return town.allOwed();
            case 5: return town.allGot();
            case 6: return town.allCredits();
            case 7: return ledger.size;
            case 8: return page.size;
            case 9: return lawsRead;
            case 10: return gainsDone;
            case 11: return walksDone;
            default: return OUTSIDE;
        }
    }

    public long digest() {
        long h = 733;
        for (int deed = 0; lawsRead > 0 && deed < DEEDS; deed++) {
            h = withDeed(h, deed);
        }
        for (int person = 0; person < town.size; person++) {
            h = withPerson(h, person);
        }
        for (int place = 0; place < page.size; place++) {
            h = 31 * h + page.at(place);
        }
        for (int what = 0; what < TOLD_OF_ALL; what++) {
            h = 31 * h + count(what);
        }
        return h;
    }

    private long withDeed(long before, int deed) {
        long h = before;
        for (int what = 0; what < TOLD_OF_DEED; what++) {
            h = 31 * h + deed(deed, what);
        }
        return 31 * h + kept(deed);
    }

    private long withPerson(long before, int person) {
        long h = before;
        for (int what = 0; what < TOLD_OF_PERSON; what++) {
            h = 31 * h + about(person, what);
        }
        for (int deed = 0; town.isHere(person) && deed < DEEDS; deed++) {
            h = 31 * h + soon(person, deed);
        }
        return h;
    }

    /** Works on the spare row: the one himself stays as he is. */
    private int weeksOfServing(Person one, int deed, int sort) {
        int now = town.week;
        spare.copy(one);
        if (spare.acted) {
            now++;
            spare.enter(now, statute);
        }
        for (int served = 0; served <= MOST_SERVED; served++) {
            if (spare.isCovered(deed, statute.termOf(deed), 0, statute)) {
                return served;
            }
            spare.does(sort, statute, now);
            now++;
            spare.enter(now, statute);
        }
        return NONE;
    }

    private boolean arePair(int a, int b) {
        return town.isHere(a) && town.isHere(b) && a != b;
    }

    private static boolean isDeed(int deed) {
        return deed >= 0 && deed < DEEDS;
    }

    private static boolean isServing(int act) {
        return act >= 0 && act < SORTS;
    }

    private static boolean isCoveredDeed(int act) {
        return act >= 10 && act < 10 + DEEDS;
    }

    private static boolean isBareDeed(int act) {
        return act >= 20 && act < 20 + DEEDS;
    }

    private static boolean isAct(int act) {
        return isServing(act) || isCoveredDeed(act) || isBareDeed(act);
    }

    /** The ACT at a place of the row of all; a week without one behind the last. */
    private static int actAt(int place) {
        return place >= 0 && place < ACTS.length ? ACTS[place] : NO_ACT;
    }

    /** What a KIND changes in the reckoning of DEEDS and of serving. */
    private enum Kind {
        PERSON(0, 0, 0, 1, 2),
        WIDOW(1, 1, 0, 1, 2),
        MONK(2, 0, 0, 2, 2),
        THIEF(3, 0, 1, 1, 2),
        BARON(4, 0, 1, 1, 1);

        private static final Kind[] ALL = values();

        private final int number;
        private final int needsLess;
        private final int getsMore;
        private final int givenAWeek;
        private final int owesTimes;

        Kind(int number, int needsLess, int getsMore, int givenAWeek, int owesTimes) {
            this.number = number;
            this.needsLess = needsLess;
            this.getsMore = getsMore;
            this.givenAWeek = givenAWeek;
            this.owesTimes = owesTimes;
        }

        static boolean isNumber(int number) {
            return number >= 0 && number < ALL.length;
        }

        static Kind numbered(int number) {
            return number >= 0 && number < ALL.length ? ALL[number] : PERSON;
        }

        boolean isA(Kind other) {
            return this == other || other == PERSON || this == BARON && other == THIEF;
        }

        int needs(int term) {
            return Math.max(1, term - needsLess);
        }

        int gets(int worth) {
            return worth + getsMore;
        }

        int owesFor(int term) {
            return term * owesTimes;
        }
    }

    /** TERMS, WORTHS and SORTS of the DEEDS, and the LAPSE (0 until one is read). */
    private static final class Law {
        private final int[] terms = new int[DEEDS];
        private final int[] worths = new int[DEEDS];
        private final int[] sorts = new int[DEEDS];
        private int lapse;

        void copy(Law other) {
            for (int deed = 0; deed < DEEDS; deed++) {
                terms[deed] = other.terms[deed];
                worths[deed] = other.worths[deed];
                sorts[deed] = other.sorts[deed];
            }
            lapse = other.lapse;
        }

        int termOf(int deed) {
            return isDeed(deed) ? terms[deed] : 0;
        }

        int worthOf(int deed) {
            return isDeed(deed) ? worths[deed] : 0;
        }

        int sortsOf(int deed) {
            return isDeed(deed) ? sorts[deed] : 0;
        }

        int allTerms() {
            int sum = 0;
            for (int deed = 0; deed < DEEDS; deed++) {
                sum += terms[deed];
            }
            return sum;
        }

        /** The first week whose CREDITS still count in this one. */
        int firstThatCounts(int week) {
            return week - lapse;
        }
    }

    /** THE PAGE, and the reading of it as a LAW, letter by letter, into a draft. */
    private static final class Page {
        private static final int AT_TERM = 0;
        private static final int AT_WORTH = 1;
        private static final int AT_COLON = 2;
        private static final int AT_FIRST_SORT = 3;
        private static final int BEHIND_SORT = 4;
        private static final int AT_LAPSE = 5;
        private static final int AT_END = 6;

        private final int[] letters = new int[LETTERS];
        private final Law draft = new Law();
        private int size;
        private int step;
        private int reading;

        boolean hasRoom() {
            return size < letters.length;
        }

        void write(int code) {
            if (size >= 0 && size < letters.length) {
                letters[size] = code;
                size++;
            }
        }

        int at(int place) {
            return place >= 0 && place < letters.length ? letters[place] : 0;
        }

        int firstFault() {
            step = AT_TERM;
            reading = 0;
            for (int place = 0; place < size; place++) {
                if (!takes(at(place))) {
                    return place;
                }
            }
            return size;
        }

        /** Leaves the LAW that was read in the draft. */
        boolean isLaw() {
            return firstFault() == size && step == AT_END;
        }

        private boolean takes(int code) {
            int digit = code - '0';
            switch (step) {
                case AT_TERM: return takesTerm(digit);
                case AT_WORTH: return takesWorth(digit);
                case AT_COLON: return takesColon(code);
                case AT_FIRST_SORT: return takesSort(digit);
                case BEHIND_SORT: return takesSort(digit) || takesEndOfDeed(code);
                case AT_LAPSE: return takesLapse(digit);
                default: return false;
            }
        }

        private boolean takesTerm(int digit) {
            if (digit < 1 || digit > 9 || !isDeed(reading)) {
                return false;
            }
            draft.terms[reading] = digit;
            draft.sorts[reading] = 0;
            step = AT_WORTH;
            return true;
        }

        private boolean takesWorth(int digit) {
            if (digit < 0 || digit > 9 || !isDeed(reading)) {
                return false;
            }
            draft.worths[reading] = digit;
            step = AT_COLON;
            return true;
        }

        private boolean takesColon(int code) {
            if (code != ':') {
                return false;
            }
            step = AT_FIRST_SORT;
            return true;
        }

        private boolean takesSort(int digit) {
            if (digit < 0 || digit >= SORTS || !isDeed(reading)
                    || (draft.sorts[reading] & 1 << digit) != 0) {
                return false;
            }
            draft.sorts[reading] |= 1 << digit;
            step = BEHIND_SORT;
            return true;
        }

        private boolean takesEndOfDeed(int code) {
            boolean last = reading == DEEDS - 1;
            if (code != (last ? ';' : '/')) {
                return false;
            }
            step = last ? AT_LAPSE : AT_TERM;
            reading = last ? reading : reading + 1;
            return true;
        }

        private boolean takesLapse(int digit) {
            if (digit < 1 || digit > 9) {
                return false;
            }
            draft.lapse = digit;
            step = AT_END;
            return true;
        }
    }

    /**
     * CREDITS, each as its week times SORTS and its SORT, in rising order: so the
     * oldest come first, and of one week those of the least SORT.
     */
    private static final class Credits {
        private final int[] row = new int[ROOM];
        private int size;

        void copy(Credits other) {
            for (int place = 0; place < other.size && place < ROOM; place++) {
                row[place] = other.row[place];
            }
            size = other.size;
        }

        boolean hasRoom() {
            return size < ROOM;
        }

        void give(int sort, int week) {
            if (size < 0 || size >= ROOM) {
                return;
            }
            int credit = week * SORTS + sort;
            int place = size;
            for (; place > 0 && row[place - 1] > credit; place--) {
                row[place] = row[place - 1];
            }
            row[place] = credit;
            size++;
        }

        int howMany(int sorts, int firstWeek) {
            int sum = 0;
            for (int place = 0; place < size && place < ROOM; place++) {
                if (row[place] >= firstWeek * SORTS && isOf(row[place], sorts)) {
                    sum++;
                }
            }
            return sum;
        }

        int oldestWeek(int sorts) {
            for (int place = 0; place < size && place < ROOM; place++) {
                if (isOf(row[place], sorts)) {
                    return row[place] / SORTS;
                }
            }
            return NONE;
        }

        void dropOldest(int sorts, int many) {
            int left = many;
            int stay = 0;
            for (int place = 0; place < size && place < ROOM; place++) {
                if (left > 0 && isOf(row[place], sorts)) {
                    left--;
                } else {
                    row[stay] = row[place];
                    stay++;
                }
            }
            size = stay;
        }

        void dropAheadOf(int firstWeek) {
            int stay = 0;
            for (int place = 0; place < size && place < ROOM; place++) {
                if (row[place] >= firstWeek * SORTS) {
                    row[stay] = row[place];
                    stay++;
                }
            }
            size = stay;
        }

        int moveTo(Credits other) {
            int moved = 0;
            for (int place = 0; place < size && place < ROOM && other.hasRoom(); place++) {
                other.give(row[place] % SORTS, row[place] / SORTS);
                moved++;
            }
            size = 0;
            return moved;
        }

        private static boolean isOf(int credit, int sorts) {
            return (sorts & 1 << credit % SORTS) != 0;
        }
    }

    /** One of the PEOPLE: held CREDITS are always such as count in his week. */
    private static final class Person {
        private static final int ALL_SORTS = (1 << SORTS) - 1;

        private final Credits credits = new Credits();
        private Kind kind = Kind.PERSON;
        private int got;
        private int owes;
        private boolean acted;
        private boolean gone;

        void begin(Kind newKind) {
            kind = newKind;
            got = 0;
            owes = 0;
            acted = false;
            gone = false;
            credits.size = 0;
        }

        void copy(Person other) {
            kind = other.kind;
            got = other.got;
            owes = other.owes;
            acted = other.acted;
            gone = other.gone;
            credits.copy(other.credits);
        }

        int told(int what) {
            switch (what) {
                case 0: return kind.number;
                case 1: return got;
                case 2: return owes;
                case 3: return credits.size;
                case 4: return credits.howMany(1, 0);
                case 5: return credits.howMany(2, 0);
                case 6: return credits.howMany(4, 0);
                case 7: return credits.oldestWeek(ALL_SORTS);
                case 8: return acted ? 1 : 0;
                default: return gone ? 1 : 0;
            }
        }

        void enter(int week, Law law) {
            acted = false;
            dropLapsed(week, law);
        }

        void dropLapsed(int week, Law law) {
            credits.dropAheadOf(law.firstThatCounts(week));
        }

        /**
         * Whether the CREDITS from a week on would do for a DEED, were that its TERM. All
         * that is held counts in this week, so week 0 leaves nothing out.
         */
        boolean isCovered(int deed, int term, int firstWeek, Law law) {
            return owes == 0 && credits.howMany(law.sortsOf(deed), firstWeek) >= kind.needs(term);
        }

        boolean isFreeTo(int act, Law law) {
            if (acted) {
                return false;
            }
            if (isServing(act)) {
                return true;
            }
            int deed = act % 10;
            return isCoveredDeed(act) ? isCovered(deed, law.termOf(deed), 0, law) : owes == 0;
        }

        /** Only behind isFreeTo(). */
        void does(int act, Law law, int week) {
            if (act == NO_ACT) {
                return;
            }
            if (isServing(act)) {
                earns(act, week);
            }
            if (isCoveredDeed(act)) {
                credits.dropOldest(law.sortsOf(act % 10), kind.needs(law.termOf(act % 10)));
            }
            got += getsBy(act, law);
            owes = owesAfter(act, law);
            acted = true;
        }

        private void earns(int sort, int week) {
            for (int given = 0; owes == 0 && given < kind.givenAWeek; given++) {
                credits.give(sort, week);
            }
        }

        int getsBy(int act, Law law) {
            return isCoveredDeed(act) || isBareDeed(act) ? kind.gets(law.worthOf(act % 10)) : 0;
        }

        int owesAfter(int act, Law law) {
            if (isServing(act)) {
                return Math.max(0, owes - 1);
            }
            return isBareDeed(act) ? kind.owesFor(law.termOf(act % 10)) : owes;
        }
    }

    /** PEOPLE in a week: those that are, those of the IMAGE, those of YEARS. */
    private static final class Town {
        private final Person[] all = new Person[PEOPLE];
        private int size;
        private int week;
        private int deedsDone;
        private int seed;

        Town() {
            for (int number = 0; number < PEOPLE; number++) {
                all[number] = new Person();
            }
        }

        void copy(Town other) {
            for (int number = 0; number < PEOPLE; number++) {
                all[number].copy(other.all[number]);
            }
            size = other.size;
            week = other.week;
        }

        boolean hasRoom() {
            return size < PEOPLE;
        }

        boolean isKnown(int number) {
            return number >= 0 && number < size && number < PEOPLE;
        }

        boolean isHere(int number) {
            return isKnown(number) && !one(number).gone;
        }

        /** Only behind isKnown(); the first one else, so that no index is ever wrong. */
        Person one(int number) {
            return number >= 0 && number < PEOPLE ? all[number] : all[0];
        }

        int welcome(Kind kind) {
            int number = size;
            one(number).begin(kind);
            size++;
            return number;
        }

        void passWeek(Law law) {
            week++;
            for (int number = 0; number < size; number++) {
                one(number).enter(week, law);
            }
        }

        void dropLapsed(Law law) {
            for (int number = 0; number < size; number++) {
                one(number).dropLapsed(week, law);
            }
        }

        int forgive() {
            int sum = allOwed();
            for (int number = 0; number < size; number++) {
                one(number).owes = 0;
            }
            return sum;
        }

        boolean someoneCovered(int deed, int term, Law law) {
            for (int number = 0; number < size; number++) {
                Person one = one(number);
                int firstWeek = law.firstThatCounts(one.acted ? week + 1 : week);
                if (!one.gone && one.isCovered(deed, term, firstWeek, law)) {
                    return true;
                }
            }
            return false;
        }

        int allGone() {
            int sum = 0;
            for (int number = 0; number < size; number++) {
                sum += one(number).gone ? 1 : 0;
            }
            return sum;
        }

        int allOwed() {
            int sum = 0;
            for (int number = 0; number < size; number++) {
                sum += one(number).owes;
            }
            return sum;
        }

        int allGot() {
            int sum = 0;
            for (int number = 0; number < size; number++) {
                sum += one(number).got;
            }
            return sum;
        }

        int allCredits() {
            int sum = 0;
            for (int number = 0; number < size; number++) {
                sum += one(number).credits.size;
            }
            return sum;
        }

        void live(int weeks, int firstSeed, Law law) {
            deedsDone = 0;
            seed = firstSeed;
            for (int lived = 0; lived < weeks; lived++) {
                for (int number = 0; number < size; number++) {
                    if (!one(number).gone) {
                        actByDraw(one(number), law);
                    }
                }
                passWeek(law);
            }
        }

        /** The DRAW is made even for one who MAY not do what it tells. */
        private void actByDraw(Person one, Law law) {
            int act = actAt(drawn());
            if (act != NO_ACT && one.isFreeTo(act, law)) {
                one.does(act, law, week);
                deedsDone += isServing(act) ? 0 : 1;
            }
        }

        /** The mask takes the rest by 2 to the 31 of what wraps at 2 to the 32. */
        private int drawn() {
            seed = 1103515245 * seed + 12345 & 0x7fffffff;
            return seed / 65536 % DRAWS;
        }
    }

    /** The search for GAIN: one row of a PERSON for each week ahead. */
    private static final class Hunt {
        private final Person[] rows = new Person[GAIN_WEEKS + 1];
        private int weeks;
        private int startWeek;
        private int firstTried;
        private int best;
        private int first;

        Hunt() {
            for (int depth = 0; depth <= GAIN_WEEKS; depth++) {
                rows[depth] = new Person();
            }
        }

        void start(Person one, Law law, int week, int manyWeeks) {
            Person here = rows[0];
            here.copy(one);
            here.got = 0;
            startWeek = week;
            weeks = manyWeeks;
            if (here.acted) {
                startWeek = week + 1;
                weeks = Math.max(0, manyWeeks - 1);
                here.enter(startWeek, law);
            }
            best = -1;
            first = NO_ACT;
            firstTried = NO_ACT;
            tryFrom(0, law);
        }

        /** ACTS are tried from the least on, so the first of the best rows begins with the least. */
        private void tryFrom(int depth, Law law) {
            if (depth < 0 || depth > GAIN_WEEKS) {
                return;
            }
            Person here = rows[depth];
            if (depth >= weeks || depth == GAIN_WEEKS) {
                if (here.got > best) {
                    best = here.got;
                    first = firstTried;
                }
                return;
            }
            if (here.got + mostStill(here, weeks - depth, law) <= best) {
                return;
            }
            for (int place = 0; place <= LAWFUL_ACTS; place++) {
                int act = place < LAWFUL_ACTS ? actAt(place) : NO_ACT;
                if (depth == 0) {
                    firstTried = act;
                }
                if (act == NO_ACT || here.isFreeTo(act, law)) {
                    Person then = rows[depth + 1];
                    then.copy(here);
                    then.does(act, law, startWeek + depth);
                    then.enter(startWeek + depth + 1, law);
                    tryFrom(depth + 1, law);
                }
            }
        }

        /**
         * No row gets more than this: without it the search looks at a hundred times as
         * many rows. A DEED costs its CREDITS and a week that might have given some, so
         * all DEEDS share what is held and what the weeks that are left could give.
         */
        private static int mostStill(Person here, int weeksLeft, Law law) {
            int free = weeksLeft - here.owes;
            if (free <= 0) {
                return 0;
            }
            int given = here.kind.givenAWeek;
            int wealth = here.credits.size + given * free;
            int byWealth = 0;
            int byWeeks = 0;
            for (int deed = 0; deed < DEEDS; deed++) {
                int gets = here.kind.gets(law.worthOf(deed));
                int cost = here.kind.needs(law.termOf(deed)) + given;
                int fit = here.credits.howMany(law.sortsOf(deed), 0) + given * free;
                if (cost > 0 && fit >= cost) {
                    byWealth = Math.max(byWealth, wealth * gets / cost);
                    byWeeks = Math.max(byWeeks, gets * free);
                }
            }
            return Math.min(byWealth, byWeeks);
        }
    }

    /** A BOOK, and the walk through all rows of ACTS that agree with it. */
    private static final class Ledger {
        private final int[] told = new int[BOOK_WEEKS];
        private final Person[] rows = new Person[BOOK_WEEKS];
        private boolean begun;
        private int size;
        private int startWeek;
        private int found;
        private int mostOwed;

        Ledger() {
            for (int depth = 0; depth < BOOK_WEEKS; depth++) {
                rows[depth] = new Person();
            }
        }

        void close() {
            begun = false;
            size = 0;
        }

        /** The first row keeps what he is now: what he does later is not of the BOOK. */
        void open(Person one, int week) {
            begun = true;
            size = 0;
            startWeek = week;
            rows[0].copy(one);
        }

        boolean hasRoom() {
            return size < BOOK_WEEKS;
        }

        void write(int got) {
            if (size >= 0 && size < BOOK_WEEKS) {
                told[size] = got;
                size++;
            }
        }

        void walk(Law law) {
            found = 0;
            mostOwed = NONE;
            if (size == 0) {
                reckon(rows[0].owes);
            } else {
                walkFrom(0, law);
            }
        }

        private void reckon(int owedThen) {
            found++;
            mostOwed = Math.max(mostOwed, owedThen);
        }

        /** The last week is only reckoned: most rows end there, and need no copy of him. */
        private void walkFrom(int depth, Law law) {
            if (depth < 0 || depth >= size || depth >= BOOK_WEEKS) {
                return;
            }
            Person here = rows[depth];
            int gets = told[depth] - here.got;
            for (int place = 0; place <= ACTS.length; place++) {
                int act = actAt(place);
                if (here.getsBy(act, law) != gets || act != NO_ACT && !here.isFreeTo(act, law)) {
                    continue;
                }
                if (depth == size - 1) {
                    reckon(here.owesAfter(act, law));
                } else {
                    goOn(depth, act, law);
                }
            }
        }

        private void goOn(int depth, int act, Law law) {
            if (depth < 0 || depth >= BOOK_WEEKS - 1) {
                return;
            }
            Person then = rows[depth + 1];
            then.copy(rows[depth]);
            then.does(act, law, startWeek + depth);
            then.enter(startWeek + depth + 1, law);
            walkFrom(depth + 1, law);
        }
    }
}
