import java.util.Arrays;

/** Garments that learn by the hour what their people do, and do it; see README.md. */
public final class ClothesRemember {
    public static final int NONE = -1;

    private static final int HOURS = 12;
    private static final int MOST_PEOPLE = 6;
    private static final int MOST_GARMENTS = 8;
    private static final int MOST_SHELVES = 8;
    private static final int MOST_ELEMENTS = 160;
    private static final int MOST_DAYS = 60;
    private static final int MOST_WASHES = 9;
    private static final int MOST_DRESSED = 4;
    private static final int HIGHEST = 9;
    private static final int PULL_TO_GO = 10;

    private static final int GARMENT = 0;
    private static final int COAT = 1;
    private static final int SHIRT = 2;
    private static final int UNIFORM = 3;
    private static final int SILK = 4;
    private static final int RAG = 5;
    private static final int GOWN = 6;
    private static final int KINDS = 7;

    // by kind: the kind above, the step of learning, what a wash takes
    private static final int[] ABOVE = {NONE, GARMENT, GARMENT, COAT, GARMENT, SHIRT, SILK};
    private static final int[] STEPS = {1, 1, 2, 2, 9, 3, 9};
    private static final int[] FADING = {3, 1, 5, 1, 0, 2, 9};

    private static final int LONGS = 3;
    private static final int ROWS_HELD = 100;
    private static final int NOT_TOLD = -1;

    private static final int NOBODY = -1;
    private static final int OTHER = -2;
    private static final int NOTHING = -3;
    private static final int BELOW = -4;
    private static final int BEYOND = -5;
    private static final int WRONG = -6;
    private static final int ROOM = -7;

    private final Shelf[] shelves = new Shelf[MOST_SHELVES];
    private final int[] refusals = new int[-ROOM + 1];
    private final Closet now = new Closet();
    private final Closet trial = new Closet();
    private final Closet imaged = new Closet();
    private final Garment spare = new Garment();
    private final Reader reader = new Reader();
    private final Dresser dresser = new Dresser();
    private final Moves moves = new Moves();
    private boolean imageTaken = false;
    private int latestFault = NONE;

    public ClothesRemember() {
        for (int s = 0; s < MOST_SHELVES; s++) {
            shelves[s] = new Shelf();
        }
    }

    // ---- shelves

    public int row(int s, int sort, int n) {
        if (!isShelf(s)) {
            return refuse(NOBODY);
        }
        if (n < 0) {
            return refuse(BELOW);
        }
        if (!isWithin(sort, 0, LONGS)) {
            return refuse(WRONG);
        }
        if (n > MOST_ELEMENTS) {
            return refuse(ROOM);
        }
        shelves[s].holdRow(sort, n);
        return 1;
    }

    public int set(int s, int i, long v) {
        int trouble = rowTrouble(s);
        if (trouble != 0) {
            return refuse(trouble);
        }
        if (!shelves[s].spans(i, 1)) {
            return refuse(BEYOND);
        }
        shelves[s].put(i, v);
        return 1;
    }

    public int copy(int p, int q, int i, int j, int n) {
        if (!isShelf(p) || !isShelf(q)) {
            return refuse(NOBODY);
        }
        Shelf from = shelves[p];
        Shelf to = shelves[q];
        if (from.holdsGarment() || to.holdsGarment() || from.isOfOtherSort(to)) {
            return refuse(OTHER);
        }
        if (from.holdsNothing() || to.holdsNothing()) {
            return refuse(NOTHING);
        }
        if (n < 0) {
            return refuse(BELOW);
        }
        if (!from.spans(i, n) || !to.spans(j, n)) {
            return refuse(BEYOND);
        }
        System.arraycopy(from.elements, i, to.elements, j, n);
        return 1;
    }

    public long element(int s, int i) {
        return rowTrouble(s) == 0 ? shelves[s].at(i) : 0L;
    }

    public int show(int s, int garment) {
        if (!isShelf(s) || garment != NONE && !now.hasGarment(garment)) {
            return refuse(NOBODY);
        }
        if (garment == NONE) {
            shelves[s].holdNothing();
            return 0;
        }
        shelves[s].holdGarment(garment);
        return 1;
    }

    public int holds(int s) {
        return isShelf(s) ? shelves[s].held : NONE;
    }

    public int says(int s, int kind) {
        if (!isShelf(s) || !isKind(kind)) {
            return refuse(NOBODY);
        }
        if (shelves[s].holdsNothing()) {
            return refuse(NOTHING);
        }
        // a row's mark is no garment's number
        int number = shelves[s].held;
        if (!now.hasGarment(number) || !now.garments[number].isA(kind)) {
            return refuse(OTHER);
        }
        return saying(number, kind);
    }

    private int saying(int number, int kind) {
        Garment garment = now.garments[number];
        switch (kind) {
            case COAT:
            case UNIFORM:
            case GOWN:
                return now.hoursToGo(number);
            case SHIRT:
            case RAG:
                return garment.step();
            case SILK:
                return HOURS - garment.countHabits();
            default:
                return garment.countHabits();
        }
    }

    // ---- people and garments

    public int person(int will) {
        if (!isDigit(will)) {
            return refuse(WRONG);
        }
        if (now.isFullOfPeople()) {
            return refuse(ROOM);
        }
        return now.addPerson(will);
    }

    public int garment(int kind, int a) {
        if (!isKind(kind)) {
            return refuse(NOBODY);
        }
        if (!isDigit(a)) {
            return refuse(WRONG);
        }
        if (now.isFullOfGarments()) {
            return refuse(ROOM);
        }
        return now.addGarment(kind, a);
    }

    public int own(int person, int hour, int d) {
        if (!now.hasPerson(person)) {
            return refuse(NOBODY);
        }
        if (!isHour(hour) || !isDigit(d)) {
            return refuse(WRONG);
        }
        int before = now.people[person].deeds[hour];
        now.people[person].deeds[hour] = d;
        return before;
    }

    public int habit(int garment, int hour, int d, int f) {
        if (!now.hasGarment(garment)) {
            return refuse(NOBODY);
        }
        if (!isHour(hour) || !isDigit(d) || !isDigit(f) || (d == 0) != (f == 0)) {
            return refuse(WRONG);
        }
        int before = now.garments[garment].habits[hour];
        now.garments[garment].accustom(hour, d, f);
        return before;
    }

    public int wear(int garment, int person) {
        if (!now.hasGarment(garment) || person != NONE && !now.hasPerson(person)) {
            return refuseLower(NOBODY);
        }
        int before = now.garments[garment].wearer;
        now.garments[garment].wearer = person;
        return before;
    }

    public int will(int person, int v) {
        if (!now.hasPerson(person)) {
            return refuse(NOBODY);
        }
        if (!isDigit(v)) {
            return refuse(WRONG);
        }
        int before = now.people[person].will;
        now.people[person].will = v;
        return before;
    }

    public int garmentOf(int garment, int what) {
        if (!now.hasGarment(garment)) {
            return refuse(BEYOND);
        }
        Garment asked = now.garments[garment];
        if (what == 0) {
            return asked.kind;
        }
        if (what == 1) {
            return asked.a;
        }
        if (what == 2) {
            return asked.wearer + 1;
        }
        if (isWithin(what, 10, 10 + HOURS - 1)) {
            return asked.habits[what - 10];
        }
        if (isWithin(what, 30, 30 + HOURS - 1)) {
            return asked.firms[what - 30];
        }
        if (isWithin(what, 50, 50 + HOURS - 1)) {
            return now.pullOf(garment, what - 50);
        }
        return refuse(BEYOND);
    }

    public int personOf(int person, int what) {
        if (!now.hasPerson(person)) {
            return refuse(BEYOND);
        }
        if (what == 0) {
            return now.people[person].will;
        }
        if (what == 1) {
            return now.wornBy(person);
        }
        if (isWithin(what, 10, 10 + HOURS - 1)) {
            return now.people[person].deeds[what - 10];
        }
        return refuse(BEYOND);
    }

    public int wardrobe(int s) {
        int trouble = rowTrouble(s);
        if (trouble != 0) {
            return refuse(trouble);
        }
        // told over a trial first: a text with a fault must change nothing
        trial.take(now);
        int items = reader.read(shelves[s], trial);
        latestFault = reader.fault;
        if (latestFault != NONE) {
            return refuse(WRONG);
        }
        now.take(trial);
        return items;
    }

    public int fault() {
        return latestFault;
    }

    // ---- behind some days

    public int does(int person, int n, int hour) {
        if (!now.hasPerson(person)) {
            return refuse(NOBODY);
        }
        if (!areDaysAndHour(n, hour)) {
            return refuse(WRONG);
        }
        tryDays(n, hour);
        return trial.deedOf(person, hour);
    }

    public int goes(int garment, int n, int hour) {
        if (!now.hasGarment(garment)) {
            return refuse(NOBODY);
        }
        if (!areDaysAndHour(n, hour)) {
            return refuse(WRONG);
        }
        tryDays(n, hour);
        return trial.isGoing(garment, hour) ? trial.garments[garment].habits[hour] : 0;
    }

    public int behind(int garment, int n, int hour, int what) {
        if (!now.hasGarment(garment)) {
            return refuse(NOBODY);
        }
        if (!isWithin(what, 0, 1)) {
            return refuse(BEYOND);
        }
        if (!areDaysAndHour(n, hour)) {
            return refuse(WRONG);
        }
        tryDays(n, hour);
        Garment then = trial.garments[garment];
        return what == 0 ? then.habits[hour] : then.firms[hour];
    }

    public int settled() {
        trial.take(now);
        int latest = 0;
        for (int hour = 0; hour < HOURS; hour++) {
            int days = trial.daysTillSettled(hour);
            if (days == NONE) {
                return NONE;
            }
            latest = Math.max(latest, days);
        }
        return latest;
    }

    /** No hour looks at another, so the days are tried at the asked hour alone. */
    private void tryDays(int n, int hour) {
        trial.take(now);
        boolean learning = true;
        for (int day = 0; day < n && learning; day++) {
            learning = trial.passHour(hour);
        }
    }

    // ---- today

    public int wins(int person) {
        if (!now.hasPerson(person)) {
            return refuse(NOBODY);
        }
        int count = 0;
        for (int hour = 0; hour < HOURS; hour++) {
            if (now.deedOf(person, hour) != now.people[person].deeds[hour]) {
                count++;
            }
        }
        return count;
    }

    public int like(int garment, int person) {
        if (!now.hasGarment(garment) || !now.hasPerson(person)) {
            return refuse(NOBODY);
        }
        return now.likeness(garment, person);
    }

    public int whose(int garment) {
        return now.hasGarment(garment) ? now.mostLike(garment) : refuseLower(NOBODY);
    }

    public int fits(int s) {
        int trouble = toldDayTrouble(s);
        if (trouble != 0) {
            return refuse(trouble);
        }
        int fitting = 0;
        for (int person = 0; person < now.peopleCount; person++) {
            if (isFitting(person, shelves[s])) {
                fitting |= 1 << person;
            }
        }
        return fitting;
    }

    private boolean isFitting(int person, Shelf told) {
        for (int hour = 0; hour < HOURS; hour++) {
            int deed = told.intAt(hour);
            if (deed != NOT_TOLD && deed != now.deedOf(person, hour)) {
                return false;
            }
        }
        return true;
    }

    public int watch() {
        if (now.peopleCount == 0) {
            return refuse(BEYOND);
        }
        int best = 0;
        int most = 0;
        for (int hour = 0; hour < HOURS; hour++) {
            int unlike = now.unlikeDeeds(hour);
            if (unlike > most) {
                most = unlike;
                best = hour;
            }
        }
        return best;
    }

    public int dressed(int s, int k, int i) {
        int trouble = rowTrouble(s);
        if (trouble != 0) {
            return refuse(trouble);
        }
        // i is nothing to be told of only where k may be: else k is what is wrong
        boolean mayBe = isWithin(k, 1, MOST_DRESSED) && k <= now.garmentCount;
        if (shelves[s].size < HOURS * now.peopleCount || mayBe && !isWithin(i, NONE, k - 1)) {
            return refuse(BEYOND);
        }
        if (!mayBe) {
            return refuse(WRONG);
        }
        dresser.search(now, shelves[s], k);
        return i == NONE ? dresser.most : dresser.best[i];
    }

    // ---- washing, patching, going home

    public int washed(int garment, int hour) {
        if (!now.hasGarment(garment)) {
            return refuseLower(NOBODY);
        }
        if (!isHour(hour)) {
            return refuseLower(WRONG);
        }
        spare.take(now.garments[garment]);
        for (int washes = 0; washes <= MOST_WASHES; washes++) {
            if (spare.habits[hour] == 0) {
                return washes;
            }
            spare.launder();
        }
        return NONE;
    }

    public int kept(int garment, int w) {
        if (!now.hasGarment(garment)) {
            return refuse(NOBODY);
        }
        if (!isWithin(w, 0, MOST_WASHES)) {
            return refuse(WRONG);
        }
        spare.take(now.garments[garment]);
        for (int washes = 0; washes < w; washes++) {
            spare.launder();
        }
        return spare.countHabits();
    }

    public int two(int garment, int other, int what) {
        if (!now.hasGarment(garment) || !now.hasGarment(other)) {
            return refuse(NOBODY);
        }
        if (!isWithin(what, 0, 1)) {
            return refuse(BEYOND);
        }
        if (garment == other) {
            return refuse(WRONG);
        }
        return what == 0 ? now.hoursInStrife(garment, other) : now.habitsPatched(garment, other);
    }

    public int alone(int hour) {
        if (!isHour(hour)) {
            return refuse(WRONG);
        }
        int going = 0;
        for (int garment = 0; garment < now.garmentCount; garment++) {
            if (now.isGoing(garment, hour)) {
                going |= 1 << garment;
            }
        }
        return going;
    }

    public int home(int garment) {
        if (!now.hasGarment(garment)) {
            return refuseLower(NOBODY);
        }
        int owner = now.mostLike(garment);
        if (owner == NONE) {
            return NONE;
        }
        for (int hour = 0; hour < HOURS; hour++) {
            if (now.isGoing(garment, hour)) {
                return 100 * owner + hour;
            }
        }
        return NONE;
    }

    public int cure(int person, int what) {
        if (!now.hasPerson(person)) {
            return refuseLower(NOBODY);
        }
        if (!isWithin(what, 0, 1)) {
            return refuseLower(BEYOND);
        }
        return what == 0 ? now.leastWill(person) : now.fewestOff(person);
    }

    public int judge(int s, int person) {
        if (!isShelf(s) || !now.hasPerson(person)) {
            return refuseLower(NOBODY);
        }
        int trouble = toldDayTrouble(s);
        if (trouble != 0) {
            return refuseLower(trouble);
        }
        // what is no deed is nobody's deed, so it differs as well
        for (int hour = 0; hour < HOURS; hour++) {
            if (shelves[s].intAt(hour) != now.deedOf(person, hour)) {
                return hour;
            }
        }
        return NONE;
    }

    public int taught(int s, int garment) {
        if (!isShelf(s) || !now.hasGarment(garment)) {
            return refuseLower(NOBODY);
        }
        int trouble = toldDayTrouble(s);
        if (trouble != 0) {
            return refuseLower(trouble);
        }
        if (!shelves[s].tellsDeedsAlone()) {
            return refuseLower(WRONG);
        }
        spare.take(now.garments[garment]);
        for (int days = 0; days <= MOST_DAYS; days++) {
            if (spare.hasLearnt(shelves[s])) {
                return days;
            }
            spare.learnDay(shelves[s]);
        }
        return NONE;
    }

    // ---- in truth

    public int wash(int garment) {
        if (!now.hasGarment(garment)) {
            return refuse(NOBODY);
        }
        now.garments[garment].launder();
        return now.garments[garment].countHabits();
    }

    public int days(int n) {
        if (!isWithin(n, 1, MOST_DAYS)) {
            return refuse(WRONG);
        }
        int done = 0;
        for (int day = 0; day < n; day++) {
            done += now.passDay();
        }
        return done;
    }

    public int years(int n) {
        if (now.garmentCount == 0) {
            return refuse(BEYOND);
        }
        if (!isWithin(n, 1, MOST_DAYS)) {
            return refuse(WRONG);
        }
        for (int year = 0; year < n; year++) {
            now.passYear();
        }
        return now.countHabits();
    }

    public int seed(int v) {
        int before = now.seed;
        now.seed = v;
        return before;
    }

    // ---- moves, the image, status

    public int act(int garment, int move, int x) {
        moves.forget();
        if (!now.hasGarment(garment) || !isWithin(move, Moves.SITS, Moves.FADES)) {
            return 0;
        }
        return moves.make(now.garments[garment], garment, move, x);
    }

    public int trace(int i) {
        return moves.bodyAt(i);
    }

    public int image() {
        imaged.take(now);
        imageTaken = true;
        return now.garmentCount;
    }

    public int restore() {
        if (!imageTaken) {
            return refuse(WRONG);
        }
        now.take(imaged);
        for (int s = 0; s < MOST_SHELVES; s++) {
            if (shelves[s].holdsGarment() && !now.hasGarment(shelves[s].held)) {
                shelves[s].holdNothing();
            }
        }
        return now.garmentCount;
    }

    public int status(int what) {
        if (isWithin(what, 10 - NOBODY, 10 - ROOM)) {
            return refusals[what - 10];
        }
        switch (what) {
            case 0:
                return now.garmentCount;
            case 1:
                return now.peopleCount;
            case 2:
                return now.countHabits();
            case 3:
                return now.countWorn();
            case 4:
                return now.daysPassed;
            case 5:
                return now.seed;
            case 6:
                return moves.ran;
            default:
                return NONE;
        }
    }

    // ---- what may be, and refusals

    private int refuse(int reason) {
        refusals[-reason]++;
        return reason;
    }

    /** For calls whose answers below 0 would be taken for NONE. */
    private int refuseLower(int reason) {
        return refuse(reason) - 10;
    }

    /** The refusal of a shelf where a row is wanted, or 0. */
    private int rowTrouble(int s) {
        if (!isShelf(s)) {
            return NOBODY;
        }
        if (shelves[s].holdsGarment()) {
            return OTHER;
        }
        return shelves[s].holdsNothing() ? NOTHING : 0;
    }

    /** The refusal of a shelf where a row of a day's deeds is wanted, or 0. */
    private int toldDayTrouble(int s) {
        int trouble = rowTrouble(s);
        if (trouble != 0) {
            return trouble;
        }
        return shelves[s].size < HOURS ? BEYOND : 0;
    }

    private static boolean isWithin(int v, int least, int most) {
        return v >= least && v <= most;
    }

    private static boolean isShelf(int s) {
        return isWithin(s, 0, MOST_SHELVES - 1);
    }

    private static boolean isKind(int kind) {
        return isWithin(kind, 0, KINDS - 1);
    }

    private static boolean isHour(int hour) {
        return isWithin(hour, 0, HOURS - 1);
    }

    private static boolean isDigit(int v) {
        return isWithin(v, 0, HIGHEST);
    }

    private static boolean areDaysAndHour(int n, int hour) {
        return isWithin(n, 0, MOST_DAYS) && isHour(hour);
    }

    /** A place that holds nothing, a garment's number, or a row. */
    private static final class Shelf {
        final long[] elements = new long[MOST_ELEMENTS];
        int size = 0;
        int held = NONE;

        void holdNothing() {
            held = NONE;
            size = 0;
        }

        void holdGarment(int number) {
            held = number;
            size = 0;
        }

        void holdRow(int sort, int n) {
            held = ROWS_HELD + sort;
            size = n;
            Arrays.fill(elements, 0L);
        }

        boolean holdsNothing() {
            return held == NONE;
        }

        boolean holdsRow() {
            return held >= ROWS_HELD;
        }

        boolean holdsGarment() {
            return held != NONE && held < ROWS_HELD;
        }

        boolean isOfOtherSort(Shelf other) {
            return holdsRow() && other.holdsRow() && held != other.held;
        }

        /** Written as a difference, for i and n together may be above every int. */
        boolean spans(int i, int n) {
            return i >= 0 && n >= 0 && i <= size - n;
        }

        void put(int i, long v) {
            switch (held - ROWS_HELD) {
                case 0:
                    elements[i] = (byte) v;
                    break;
                case 1:
                    elements[i] = (short) v;
                    break;
                case 2:
                    elements[i] = (int) v;
                    break;
                default:
                    elements[i] = v;
                    break;
            }
        }

        long at(int i) {
            return i >= 0 && i < size ? elements[i] : 0L;
        }

        /** Of longs the lowest 32 bits, wherever a row tells something. */
        int intAt(int i) {
            return i >= 0 && i < size ? (int) elements[i] : 0;
        }

        boolean tellsDeedsAlone() {
            for (int hour = 0; hour < HOURS; hour++) {
                if (!isDigit(intAt(hour))) {
                    return false;
                }
            }
            return true;
        }
    }

    /** One of the people. */
    private static final class Person {
        final int[] deeds = new int[HOURS];
        int will = 0;

        void start(int ofWill) {
            will = ofWill;
            Arrays.fill(deeds, 0);
        }

        void take(Person other) {
            will = other.will;
            System.arraycopy(other.deeds, 0, deeds, 0, HOURS);
        }
    }

    /** A garment, as far as it does not ask for others. */
    private static final class Garment {
        final int[] habits = new int[HOURS];
        final int[] firms = new int[HOURS];
        int kind = GARMENT;
        int a = 0;
        int wearer = NONE;

        void start(int ofKind, int ofA) {
            kind = ofKind;
            a = ofA;
            wearer = NONE;
            Arrays.fill(habits, 0);
            Arrays.fill(firms, 0);
        }

        void take(Garment other) {
            kind = other.kind;
            a = other.a;
            wearer = other.wearer;
            System.arraycopy(other.habits, 0, habits, 0, HOURS);
            System.arraycopy(other.firms, 0, firms, 0, HOURS);
        }

        boolean isA(int wanted) {
            int at = kind;
            for (int level = 0; level < KINDS && at != NONE; level++) {
                if (at == wanted) {
                    return true;
                }
                at = ABOVE[at];
            }
            return false;
        }

        boolean canGo() {
            return kind == COAT || kind == UNIFORM || kind == GOWN;
        }

        boolean learnsOnce() {
            return kind == SILK || kind == GOWN;
        }

        int step() {
            return STEPS[kind];
        }

        void accustom(int hour, int deed, int firm) {
            habits[hour] = deed;
            firms[hour] = firm;
        }

        /** Whether a habit or how firm it is changed. */
        boolean learn(int hour, int deed) {
            if (deed == 0 || learnsOnce() && habits[hour] != 0) {
                return false;
            }
            int before = firms[hour];
            if (habits[hour] == deed) {
                firms[hour] = Math.min(HIGHEST, before + step());
                return firms[hour] != before;
            }
            if (before > step()) {
                firms[hour] = before - step();
            } else {
                accustom(hour, deed, learnsOnce() ? HIGHEST : 1);
            }
            return true;
        }

        void learnDay(Shelf told) {
            for (int hour = 0; hour < HOURS; hour++) {
                learn(hour, told.intAt(hour));
            }
        }

        boolean hasLearnt(Shelf told) {
            for (int hour = 0; hour < HOURS; hour++) {
                int deed = told.intAt(hour);
                if (deed != 0 && habits[hour] != deed) {
                    return false;
                }
            }
            return true;
        }

        void launder() {
            for (int hour = 0; hour < HOURS; hour++) {
                int left = firms[hour] - FADING[kind];
                if (left > 0) {
                    firms[hour] = left;
                } else {
                    accustom(hour, 0, 0);
                }
            }
        }

        int countHabits() {
            int count = 0;
            for (int hour = 0; hour < HOURS; hour++) {
                if (habits[hour] != 0) {
                    count++;
                }
            }
            return count;
        }
    }

    /** All people and garments, with the seed and the days: what an image keeps. */
    private static final class Closet {
        final Person[] people = new Person[MOST_PEOPLE];
        final Garment[] garments = new Garment[MOST_GARMENTS];
        private final int[] done = new int[MOST_PEOPLE];
        int peopleCount = 0;
        int garmentCount = 0;
        int seed = 1;
        int daysPassed = 0;

        Closet() {
            for (int person = 0; person < MOST_PEOPLE; person++) {
                people[person] = new Person();
            }
            for (int garment = 0; garment < MOST_GARMENTS; garment++) {
                garments[garment] = new Garment();
            }
        }

        void take(Closet other) {
            peopleCount = other.peopleCount;
            garmentCount = other.garmentCount;
            seed = other.seed;
            daysPassed = other.daysPassed;
            for (int person = 0; person < peopleCount; person++) {
                people[person].take(other.people[person]);
            }
            for (int garment = 0; garment < garmentCount; garment++) {
                garments[garment].take(other.garments[garment]);
            }
        }

        boolean hasPerson(int person) {
            return isWithin(person, 0, peopleCount - 1);
        }

        boolean hasGarment(int garment) {
            return isWithin(garment, 0, garmentCount - 1);
        }

        boolean isFullOfPeople() {
            return peopleCount >= MOST_PEOPLE;
        }

        boolean isFullOfGarments() {
            return garmentCount >= MOST_GARMENTS;
        }

        int addPerson(int will) {
            people[peopleCount].start(will);
            return peopleCount++;
        }

        int addGarment(int kind, int a) {
            garments[garmentCount].start(kind, a);
            return garmentCount++;
        }

        int wornBy(int person) {
            int worn = 0;
            for (int garment = 0; garment < garmentCount; garment++) {
                if (garments[garment].wearer == person) {
                    worn |= 1 << garment;
                }
            }
            return worn;
        }

        int countWorn() {
            return garmentCount - Integer.bitCount(wornBy(NONE));
        }

        int countHabits() {
            int count = 0;
            for (int garment = 0; garment < garmentCount; garment++) {
                count += garments[garment].countHabits();
            }
            return count;
        }

        int pullOf(int number, int hour) {
            Garment garment = garments[number];
            int deed = garment.habits[hour];
            int firm = garment.firms[hour];
            int pull = firm + garment.a;
            if (deed == 0) {
                return 0;
            }
            switch (garment.kind) {
                case COAT:
                    return pull;
                case UNIFORM:
                    for (int other = 0; other < garmentCount; other++) {
                        if (garments[other].kind == UNIFORM && garments[other].habits[hour] == deed) {
                            pull++;
                        }
                    }
                    return pull;
                case RAG:
                    return firm / 2;
                case SILK:
                    return 2 * firm;
                case GOWN:
                    return 2 * firm + (hour == garment.a ? 9 : 0);
                default:
                    return firm;
            }
        }

        /** What one would do with such a will in such garments (bits). */
        int deedIn(int person, int hour, int worn, int will) {
            int deed = people[person].deeds[hour];
            int strongest = will;
            for (int garment = 0; garment < garmentCount; garment++) {
                if ((worn >> garment & 1) != 0) {
                    int pull = pullOf(garment, hour);
                    // only what pulls more takes over, so of several the first stays
                    if (pull > strongest) {
                        strongest = pull;
                        deed = garments[garment].habits[hour];
                    }
                }
            }
            return deed;
        }

        int deedOf(int person, int hour) {
            return deedIn(person, hour, wornBy(person), people[person].will);
        }

        private boolean wouldGo(int garment, int hour) {
            return garments[garment].canGo() && pullOf(garment, hour) >= PULL_TO_GO;
        }

        boolean isGoing(int garment, int hour) {
            return garments[garment].wearer == NONE && wouldGo(garment, hour);
        }

        int hoursToGo(int garment) {
            int count = 0;
            for (int hour = 0; hour < HOURS; hour++) {
                if (wouldGo(garment, hour)) {
                    count++;
                }
            }
            return count;
        }

        /** Whether anything was learnt behind this hour. */
        boolean passHour(int hour) {
            // all at once: everybody has done a deed before any garment learns
            for (int person = 0; person < peopleCount; person++) {
                done[person] = deedIn(person, hour, wornBy(person), people[person].will);
            }
            boolean learnt = false;
            for (int garment = 0; garment < garmentCount; garment++) {
                int wearer = garments[garment].wearer;
                if (hasPerson(wearer) && garments[garment].learn(hour, done[wearer])) {
                    learnt = true;
                }
            }
            return learnt;
        }

        /** How many deeds people did on this day. */
        int passDay() {
            int count = 0;
            for (int hour = 0; hour < HOURS; hour++) {
                passHour(hour);
                for (int person = 0; person < peopleCount; person++) {
                    if (done[person] != 0) {
                        count++;
                    }
                }
            }
            daysPassed++;
            return count;
        }

        int daysTillSettled(int hour) {
            for (int days = 0; days <= MOST_DAYS; days++) {
                if (!passHour(hour)) {
                    return days;
                }
            }
            return NONE;
        }

        private int draw(int below) {
            seed = seed * 1103515245 + 12345;
            return below > 0 ? (seed >>> 16) % below : 0;
        }

        void passYear() {
            int garment = draw(garmentCount);
            int fate = draw(4);
            if (hasGarment(garment)) {
                if (fate == 0) {
                    garments[garment].launder();
                } else if (fate == 1 || peopleCount == 0) {
                    garments[garment].wearer = NONE;
                } else {
                    garments[garment].wearer = draw(peopleCount);
                }
            }
            passDay();
        }

        int likeness(int garment, int person) {
            int count = 0;
            for (int hour = 0; hour < HOURS; hour++) {
                int deed = people[person].deeds[hour];
                if (deed != 0 && garments[garment].habits[hour] == deed) {
                    count++;
                }
            }
            return count;
        }

        int mostLike(int garment) {
            int best = NONE;
            int most = 0;
            for (int person = 0; person < peopleCount; person++) {
                int likeness = likeness(garment, person);
                if (likeness > most) {
                    most = likeness;
                    best = person;
                }
            }
            return best;
        }

        int unlikeDeeds(int hour) {
            int seen = 0;
            for (int person = 0; person < peopleCount; person++) {
                seen |= 1 << deedOf(person, hour);
            }
            // bit 0 is no deed
            return Integer.bitCount(seen & ~1);
        }

        int hoursInStrife(int garment, int other) {
            int count = 0;
            for (int hour = 0; hour < HOURS; hour++) {
                int first = garments[garment].habits[hour];
                int second = garments[other].habits[hour];
                if (first != 0 && second != 0 && first != second) {
                    count++;
                }
            }
            return count;
        }

        int habitsPatched(int garment, int other) {
            int count = 0;
            for (int hour = 0; hour < HOURS; hour++) {
                if (pullOf(garment, hour) > pullOf(other, hour)) {
                    count++;
                }
            }
            return count;
        }

        private boolean doesAllOwn(int person, int worn, int will) {
            for (int hour = 0; hour < HOURS; hour++) {
                if (deedIn(person, hour, worn, will) != people[person].deeds[hour]) {
                    return false;
                }
            }
            return true;
        }

        int leastWill(int person) {
            int worn = wornBy(person);
            for (int will = 0; will <= HIGHEST; will++) {
                if (doesAllOwn(person, worn, will)) {
                    return will;
                }
            }
            return NONE;
        }

        /** With all off he does his own deeds; bits go up, so of as few garments the least come first. */
        int fewestOff(int person) {
            int worn = wornBy(person);
            int best = worn;
            for (int off = 0; off < worn; off++) {
                if ((off & ~worn) == 0 && Integer.bitCount(off) < Integer.bitCount(best)
                        && doesAllOwn(person, worn & ~off, people[person].will)) {
                    best = off;
                }
            }
            return best;
        }
    }

    /** The search for the way to dress people by which most told deeds are done. */
    private static final class Dresser {
        private static final int LOADS = 1 << MOST_DRESSED;
        private static final int MOST_WAYS = 7 * 7 * 7 * 7;

        // a way tells of each garment who wears it, and 1; 0 is nobody
        final int[] best = new int[MOST_DRESSED];
        int most = NONE;
        private final int[] way = new int[MOST_DRESSED];
        private final int[] loads = new int[MOST_PEOPLE];
        private final int[] scores = new int[MOST_PEOPLE * LOADS];

        void search(Closet closet, Shelf told, int k) {
            scoreLoads(closet, told, k);
            Arrays.fill(way, 0);
            most = NONE;
            boolean more = true;
            for (int tried = 0; tried < MOST_WAYS && more; tried++) {
                int score = scoreWay(closet.peopleCount, k);
                if (score > most) {
                    most = score;
                    System.arraycopy(way, 0, best, 0, MOST_DRESSED);
                }
                more = advance(closet.peopleCount, k);
            }
        }

        /** What one does goes by his own load alone, so each load is looked at once. */
        private void scoreLoads(Closet closet, Shelf told, int k) {
            int changing = (1 << k) - 1;
            for (int person = 0; person < closet.peopleCount; person++) {
                int staying = closet.wornBy(person) & ~changing;
                for (int load = 0; load <= changing; load++) {
                    scores[person * LOADS + load] = scoreLoad(closet, told, person, staying | load);
                }
            }
        }

        private static int scoreLoad(Closet closet, Shelf told, int person, int worn) {
            int count = 0;
            for (int hour = 0; hour < HOURS; hour++) {
                int deed = closet.deedIn(person, hour, worn, closet.people[person].will);
                if (told.intAt(person * HOURS + hour) == deed) {
                    count++;
                }
            }
            return count;
        }

        private int scoreWay(int peopleCount, int k) {
            Arrays.fill(loads, 0);
            for (int garment = 0; garment < k; garment++) {
                if (way[garment] > 0) {
                    loads[way[garment] - 1] |= 1 << garment;
                }
            }
            int score = 0;
            for (int person = 0; person < peopleCount; person++) {
                score += scores[person * LOADS + loads[person]];
            }
            return score;
        }

        /** The next row of numbers; false behind the last. */
        private boolean advance(int peopleCount, int k) {
            for (int garment = k - 1; garment >= 0; garment--) {
                if (way[garment] < peopleCount) {
                    way[garment]++;
                    return true;
                }
                way[garment] = 0;
            }
            return false;
        }
    }

    /** Reads a wardrobe's text and tells it over a closet. */
    private static final class Reader {
        private static final int PERSON_WORD = 0;
        private static final int GARMENT_WORD = 1;
        private static final int OWN_WORD = 2;
        private static final int HABIT_WORD = 3;
        private static final int WEAR_WORD = 4;
        private static final int OFF_WORD = 5;
        private static final int WASH_WORD = 6;
        private static final int WORDS = 8;
        private static final int LONGEST_WORD = 7;

        private static final int NO_NUMBER = 0;
        private static final int DIGIT = 1;
        private static final int DIGIT_NOT_0 = 2;
        private static final int KIND = 3;
        private static final int HOUR = 4;
        private static final int PERSON = 5;
        private static final int GARMENT_NUMBER = 6;
        private static final int MOST_NUMBERS = 4;

        // by word: what its numbers are
        private static final int[] NUMBERS = {
            DIGIT, NO_NUMBER, NO_NUMBER, NO_NUMBER,
            KIND, DIGIT, NO_NUMBER, NO_NUMBER,
            PERSON, HOUR, DIGIT, NO_NUMBER,
            GARMENT_NUMBER, HOUR, DIGIT_NOT_0, DIGIT_NOT_0,
            GARMENT_NUMBER, PERSON, NO_NUMBER, NO_NUMBER,
            GARMENT_NUMBER, NO_NUMBER, NO_NUMBER, NO_NUMBER,
            GARMENT_NUMBER, NO_NUMBER, NO_NUMBER, NO_NUMBER,
            NO_NUMBER, NO_NUMBER, NO_NUMBER, NO_NUMBER
        };

        int fault = NONE;
        private final int[] numbers = new int[MOST_NUMBERS];
        private Shelf text = null;
        private Closet closet = null;
        private int place = 0;

        /** How many items there are; what it told counts only without a fault. */
        int read(Shelf from, Closet over) {
            text = from;
            closet = over;
            place = 0;
            fault = NONE;
            int items = 0;
            boolean more = true;
            // an item and its ; take more than one element each
            while (more && items <= MOST_ELEMENTS) {
                int word = readItem();
                if (word == NONE) {
                    return items;
                }
                tell(word);
                items++;
                more = place < text.size && readSign(';');
            }
            return items;
        }

        /** The word of an item whose numbers are read as well; NONE behind a fault. */
        private int readItem() {
            int start = place;
            int word = readWord();
            if (word == PERSON_WORD && closet.isFullOfPeople()
                    || word == GARMENT_WORD && closet.isFullOfGarments()) {
                fault = start;
                return NONE;
            }
            return word != NONE && readNumbers(word) ? word : NONE;
        }

        /** Letter by letter: the fault is the first with which no word goes on. */
        private int readWord() {
            int possible = (1 << WORDS) - 1;
            for (int at = 0; at < LONGEST_WORD; at++) {
                possible = wordsGoingOn(possible, at, text.intAt(place));
                if (possible == 0) {
                    fault = place;
                    return NONE;
                }
                place++;
                int whole = wordEndingBehind(possible, at);
                if (whole != NONE) {
                    return whole;
                }
            }
            return NONE;
        }

        private static int wordsGoingOn(int possible, int at, int sign) {
            int left = 0;
            for (int word = 0; word < WORDS; word++) {
                String letters = spelling(word);
                if ((possible >> word & 1) != 0 && at < letters.length() && letters.charAt(at) == sign) {
                    left |= 1 << word;
                }
            }
            return left;
        }

        private static int wordEndingBehind(int possible, int at) {
            for (int word = 0; word < WORDS; word++) {
                if ((possible >> word & 1) != 0 && spelling(word).length() == at + 1) {
                    return word;
                }
            }
            return NONE;
        }

        private static String spelling(int word) {
            switch (word) {
                case PERSON_WORD:
                    return "person";
                case GARMENT_WORD:
                    return "garment";
                case OWN_WORD:
                    return "own";
                case HABIT_WORD:
                    return "habit";
                case WEAR_WORD:
                    return "wear";
                case OFF_WORD:
                    return "off";
                case WASH_WORD:
                    return "wash";
                default:
                    return "day";
            }
        }

        private boolean readNumbers(int word) {
            for (int at = 0; at < MOST_NUMBERS; at++) {
                int meaning = NUMBERS[word * MOST_NUMBERS + at];
                if (meaning == NO_NUMBER) {
                    return true;
                }
                if (!readSign(' ')) {
                    return false;
                }
                numbers[at] = readNumber(meaning == DIGIT_NOT_0 ? 1 : 0, highest(meaning));
                if (numbers[at] == NONE) {
                    return false;
                }
            }
            return true;
        }

        private int highest(int meaning) {
            switch (meaning) {
                case KIND:
                    return KINDS - 1;
                case HOUR:
                    return HOURS - 1;
                case PERSON:
                    return closet.peopleCount - 1;
                case GARMENT_NUMBER:
                    return closet.garmentCount - 1;
                default:
                    return HIGHEST;
            }
        }

        private boolean readSign(char sign) {
            if (text.intAt(place) != sign) {
                fault = place;
                return false;
            }
            place++;
            return true;
        }

        private int readNumber(int least, int most) {
            int first = place;
            if (!isDigitSign(place)) {
                fault = place;
                return NONE;
            }
            int number = takeDigit();
            if (isDigitSign(place)) {
                number = 10 * number + takeDigit();
            }
            if (!isWithin(number, least, most)) {
                fault = first;
                return NONE;
            }
            return number;
        }

        /** Behind the end an element reads as 0, which is no sign of any text. */
        private boolean isDigitSign(int at) {
            return isWithin(text.intAt(at), '0', '9');
        }

        private int takeDigit() {
            int digit = text.intAt(place) - '0';
            place++;
            return digit;
        }

        private void tell(int word) {
            switch (word) {
                case PERSON_WORD:
                    closet.addPerson(numbers[0]);
                    break;
                case GARMENT_WORD:
                    closet.addGarment(numbers[0], numbers[1]);
                    break;
                case OWN_WORD:
                    closet.people[numbers[0]].deeds[numbers[1]] = numbers[2];
                    break;
                case HABIT_WORD:
                    closet.garments[numbers[0]].accustom(numbers[1], numbers[2], numbers[3]);
                    break;
                case WEAR_WORD:
                    closet.garments[numbers[0]].wearer = numbers[1];
                    break;
                case OFF_WORD:
                    closet.garments[numbers[0]].wearer = NONE;
                    break;
                case WASH_WORD:
                    closet.garments[numbers[0]].launder();
                    break;
                default:
                    closet.passDay();
                    break;
            }
        }
    }

    /** The moves of garments, and the trace of the bodies that ran. */
    private static final class Moves {
        static final int SITS = 0;
        static final int PULLS = 1;
        static final int FADES = 2;
        private static final int MOVES = 3;
        private static final int MOST_KEPT = 20;
        private static final int DEEPEST = 40;

        // by kind: its bodies that sit, pull, fade; 0 where it has none
        private static final int[] BODIES = {
            10, 11, 12,
            20, 0, 0,
            0, 30, 0,
            0, 40, 0,
            51, 0, 50,
            0, 0, 60,
            70, 71, 0
        };

        int ran = 0;
        private final int[] bodies = new int[MOST_KEPT];
        private int kind = GARMENT;
        private int m = 0;
        private int k = 0;

        void forget() {
            ran = 0;
        }

        int bodyAt(int i) {
            return i >= 0 && i < ran && i < MOST_KEPT ? bodies[i] : NONE;
        }

        int make(Garment garment, int number, int move, int x) {
            kind = garment.kind;
            m = number;
            k = garment.a;
            return run(kind, move, x, 0);
        }

        /** The body of that kind, or of the next above that has one. */
        private int run(int from, int move, int x, int depth) {
            int at = from;
            for (int level = 0; level < KINDS && at != NONE && BODIES[at * MOVES + move] == 0; level++) {
                at = ABOVE[at];
            }
            if (at == NONE || depth > DEEPEST) {
                return 0;
            }
            int body = BODIES[at * MOVES + move];
            note(body);
            int next = depth + 1;
            switch (body) {
                case 10:
                    return x + m;
                case 11:
                    return run(kind, SITS, x, next) * 2;
                case 12:
                    return run(kind, PULLS, x, next) ^ run(kind, SITS, x - k, next);
                case 20:
                    return run(ABOVE[at], SITS, x, next) + k;
                case 30:
                    return run(ABOVE[at], PULLS, x, next) * 3;
                case 40:
                    return run(ABOVE[at], PULLS, x + 1, next);
                case 50:
                    return -run(ABOVE[at], FADES, x, next);
                case 51:
                    return run(ABOVE[at], SITS, x, next) - m;
                case 60:
                    return run(ABOVE[at], FADES, x, next) ^ 5;
                case 70:
                    return run(ABOVE[at], SITS, x, next) * 2;
                default:
                    return run(ABOVE[at], PULLS, x - k, next);
            }
        }

        private void note(int body) {
            if (ran < MOST_KEPT) {
                bodies[ran] = body;
            }
            ran++;
        }
    }
}
