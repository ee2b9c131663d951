import java.util.ArrayList;
import java.util.Arrays;
import java.util.HashSet;
import java.util.List;
import java.util.Set;
import java.util.regex.Matcher;
import java.util.regex.Pattern;

/**
 * The document told a second time, as plainly as may be: whole days one behind the other, all ways one by one,
 * and nothing shared with the class. Every call goes by its name.
 */
final class PlainModel {
    private static final int NONE = -1;
    private static final int HOURS = 12;
    private static final Set<String> LOWER = Set.of("wear", "whose", "washed", "home", "cure", "judge", "taught");

    private static final String NUMBER = " [0-9]{1,2}";
    private static final String ITEM = "(person" + NUMBER + "|garment" + NUMBER.repeat(2) + "|own" + NUMBER.repeat(3)
        + "|habit" + NUMBER.repeat(4) + "|wear" + NUMBER.repeat(2) + "|off" + NUMBER + "|wash" + NUMBER + "|day)";
    private static final Pattern TEXT = Pattern.compile(ITEM + "(;" + ITEM + ")*");
    private static final Pattern WORD = Pattern.compile("[a-z]+");
    private static final Pattern DIGITS = Pattern.compile("[0-9]{1,2}");

    /** A refusal on its way out. */
    private static final class Refused extends RuntimeException {
        private static final long serialVersionUID = 1L;
        final int number;

        Refused(int number) {
            super("refused", null, false, false);
            this.number = number;
        }
    }

    private static final class Person {
        int will;
        int[] own = new int[HOURS];

        Person copy() {
            Person same = new Person();
            same.will = will;
            same.own = own.clone();
            return same;
        }
    }

    private static final class Garment {
        int kind;
        int a;
        int wearer = NONE;
        int[] habit = new int[HOURS];
        int[] firm = new int[HOURS];

        Garment copy() {
            Garment same = new Garment();
            same.kind = kind;
            same.a = a;
            same.wearer = wearer;
            same.habit = habit.clone();
            same.firm = firm.clone();
            return same;
        }

        int habits() {
            return (int) Arrays.stream(habit).filter(d -> d != 0).count();
        }

        int step(int hour) {
            switch (kind) {
                case 0:
                case 1:
                    return 1;
                case 2:
                case 3:
                    return 2;
                case 5:
                    return 3;
                default:
                    return habit[hour] == 0 ? 9 : 0;
            }
        }

        void learn(int hour, int deed) {
            if (deed == 0) {
                return;
            }
            boolean hadHabit = habit[hour] != 0;
            int step = step(hour);
            if (habit[hour] == deed) {
                firm[hour] = Math.min(9, firm[hour] + step);
                return;
            }
            int less = firm[hour] - step;
            if ((less <= 0 || !hadHabit) && step != 0) {
                habit[hour] = deed;
                firm[hour] = kind == 4 || kind == 6 ? 9 : 1;
            } else {
                firm[hour] = less;
            }
        }

        void wash() {
            int[] taken = {3, 1, 5, 1, 0, 2, 9};
            for (int hour = 0; hour < HOURS; hour++) {
                firm[hour] = Math.max(0, firm[hour] - taken[kind]);
                habit[hour] = firm[hour] == 0 ? 0 : habit[hour];
            }
        }
    }

    private static final class State {
        List<Person> people = new ArrayList<>();
        List<Garment> garments = new ArrayList<>();
        int seed = 1;
        int days = 0;

        State copy() {
            State same = new State();
            people.forEach(one -> same.people.add(one.copy()));
            garments.forEach(one -> same.garments.add(one.copy()));
            same.seed = seed;
            same.days = days;
            return same;
        }

        int habits() {
            return garments.stream().mapToInt(Garment::habits).sum();
        }

        String learnt() {
            StringBuilder all = new StringBuilder();
            garments.forEach(one -> all.append(Arrays.toString(one.habit)).append(Arrays.toString(one.firm)));
            return all.toString();
        }

        int pull(int number, int hour) {
            Garment one = garments.get(number);
            int habit = one.habit[hour];
            if (habit == 0) {
                return 0;
            }
            int firm = one.firm[hour];
            switch (one.kind) {
                case 1:
                    return firm + one.a;
                case 3:
                    return firm + one.a
                        + (int) garments.stream().filter(g -> g.kind == 3 && g.habit[hour] == habit).count();
                case 4:
                    return 2 * firm;
                case 5:
                    return firm / 2;
                case 6:
                    return one.a == hour ? 2 * firm + 9 : 2 * firm;
                default:
                    return firm;
            }
        }

        int deed(int person, int hour) {
            int chosen = NONE;
            for (int g = 0; g < garments.size(); g++) {
                boolean worn = garments.get(g).wearer == person;
                if (worn && (chosen == NONE || pull(g, hour) > pull(chosen, hour))) {
                    chosen = g;
                }
            }
            boolean led = chosen != NONE && pull(chosen, hour) > people.get(person).will;
            return led ? garments.get(chosen).habit[hour] : people.get(person).own[hour];
        }

        boolean wouldGo(int number, int hour) {
            return Set.of(1, 3, 6).contains(garments.get(number).kind) && pull(number, hour) >= 10;
        }

        int alone(int number, int hour) {
            boolean goes = garments.get(number).wearer == NONE && wouldGo(number, hour);
            return goes ? garments.get(number).habit[hour] : 0;
        }

        int day() {
            int done = 0;
            for (int hour = 0; hour < HOURS; hour++) {
                int[] deeds = new int[people.size()];
                for (int p = 0; p < deeds.length; p++) {
                    deeds[p] = deed(p, hour);
                    done += deeds[p] != 0 ? 1 : 0;
                }
                for (Garment one : garments) {
                    if (one.wearer != NONE) {
                        one.learn(hour, deeds[one.wearer]);
                    }
                }
            }
            days++;
            return done;
        }

        State behind(int n) {
            State later = copy();
            for (int i = 0; i < n; i++) {
                later.day();
            }
            return later;
        }

        int draw(int n) {
            seed = seed * 1103515245 + 12345;
            return (seed >>> 16) % n;
        }

        void year() {
            Garment one = garments.get(draw(garments.size()));
            int fate = draw(4);
            if (fate == 0) {
                one.wash();
            } else if (fate == 1 || people.isEmpty()) {
                one.wearer = NONE;
            } else {
                one.wearer = draw(people.size());
            }
            day();
        }

        int like(int garment, int person) {
            int alike = 0;
            for (int hour = 0; hour < HOURS; hour++) {
                int own = people.get(person).own[hour];
                alike += own != 0 && own == garments.get(garment).habit[hour] ? 1 : 0;
            }
            return alike;
        }

        int whose(int garment) {
            for (int alike = HOURS; alike > 0; alike--) {
                for (int p = 0; p < people.size(); p++) {
                    if (like(garment, p) == alike) {
                        return p;
                    }
                }
            }
            return NONE;
        }

        boolean doesAllOwn(int person) {
            for (int hour = 0; hour < HOURS; hour++) {
                if (deed(person, hour) != people.get(person).own[hour]) {
                    return false;
                }
            }
            return true;
        }
    }

    /** Bodies as a Java program would have them. */
    private class Bodies {
        final int m;
        final int k;

        Bodies(int m, int k) {
            this.m = m;
            this.k = k;
        }

        int sits(int x) {
            trace.add(10);
            return x + m;
        }

        int pulls(int x) {
            trace.add(11);
            return sits(x) * 2;
        }

        int fades(int x) {
            trace.add(12);
            return pulls(x) ^ sits(x - k);
        }
    }

    private class Coat extends Bodies {
        Coat(int m, int k) {
            super(m, k);
        }

        @Override
        int sits(int x) {
            trace.add(20);
            return super.sits(x) + k;
        }
    }

    private class Shirt extends Bodies {
        Shirt(int m, int k) {
            super(m, k);
        }

        @Override
        int pulls(int x) {
            trace.add(30);
            return super.pulls(x) * 3;
        }
    }

    private class Uniform extends Coat {
        Uniform(int m, int k) {
            super(m, k);
        }

        @Override
        int pulls(int x) {
            trace.add(40);
            return super.pulls(x + 1);
        }
    }

    private class Silk extends Bodies {
        Silk(int m, int k) {
            super(m, k);
        }

        @Override
        int fades(int x) {
            trace.add(50);
            return -super.fades(x);
        }

        @Override
        int sits(int x) {
            trace.add(51);
            return super.sits(x) - m;
        }
    }

    private class Rag extends Shirt {
        Rag(int m, int k) {
            super(m, k);
        }

        @Override
        int fades(int x) {
            trace.add(60);
            return super.fades(x) ^ 5;
        }
    }

    private class Gown extends Silk {
        Gown(int m, int k) {
            super(m, k);
        }

        @Override
        int sits(int x) {
            trace.add(70);
            return super.sits(x) * 2;
        }

        @Override
        int pulls(int x) {
            trace.add(71);
            return super.pulls(x - k);
        }
    }

    /** What a shelf holds: nothing, a garment's number, or elements of a sort. */
    private static final class Shelf {
        int garment = NONE;
        int sort = NONE;
        long[] row = null;

        int as(int i) {
            return (int) row[i];
        }

        boolean isEmpty() {
            return garment == NONE && row == null;
        }
    }

    private final Shelf[] shelves = new Shelf[8];
    private final int[] refusals = new int[8];
    private final List<Integer> trace = new ArrayList<>();
    private State now = new State();
    private State imaged = null;
    private int fault = NONE;

    PlainModel() {
        for (int s = 0; s < shelves.length; s++) {
            shelves[s] = new Shelf();
        }
    }

    /** The answer that is due. */
    long call(String name, long... with) {
        try {
            return shelfCall(name, with);
        } catch (Refused refused) {
            refusals[-refused.number]++;
            return LOWER.contains(name) ? refused.number - 10 : refused.number;
        }
    }

    private static void refuseIf(boolean fits, int number) {
        if (fits) {
            throw new Refused(number);
        }
    }

    private static boolean out(long v, long least, long most) {
        return v < least || v > most;
    }

    private boolean noGarment(int g) {
        return out(g, 0, now.garments.size() - 1);
    }

    private boolean noPerson(int p) {
        return out(p, 0, now.people.size() - 1);
    }

    private Shelf rowOf(int s) {
        refuseIf(out(s, 0, 7), -1);
        refuseIf(shelves[s].garment != NONE, -2);
        refuseIf(shelves[s].isEmpty(), -3);
        return shelves[s];
    }

    private Shelf dayOf(int s) {
        Shelf told = rowOf(s);
        refuseIf(told.row.length < HOURS, -5);
        return told;
    }

    private static long lowest(int sort, long v) {
        int bits = 8 << sort;
        return bits == 64 ? v : v << 64 - bits >> 64 - bits;
    }

    private long shelfCall(String name, long[] with) {
        int[] v = new int[5];
        for (int i = 0; i < with.length; i++) {
            v[i] = (int) with[i];
        }
        switch (name) {
            case "row":
                refuseIf(out(v[0], 0, 7), -1);
                refuseIf(v[2] < 0, -4);
                refuseIf(out(v[1], 0, 3), -6);
                refuseIf(v[2] > 160, -7);
                shelves[v[0]] = new Shelf();
                shelves[v[0]].sort = v[1];
                shelves[v[0]].row = new long[v[2]];
                return 1;
            case "set":
                Shelf set = rowOf(v[0]);
                refuseIf(out(v[1], 0, set.row.length - 1), -5);
                set.row[v[1]] = lowest(set.sort, with[2]);
                return 1;
            case "copy":
                return copy(v[0], v[1], v[2], v[3], v[4]);
            case "element":
                boolean there = !out(v[0], 0, 7) && shelves[v[0]].row != null
                    && !out(v[1], 0, shelves[v[0]].row.length - 1);
                return there ? shelves[v[0]].row[v[1]] : 0;
            case "show":
                refuseIf(out(v[0], 0, 7) || v[1] != NONE && noGarment(v[1]), -1);
                shelves[v[0]] = new Shelf();
                shelves[v[0]].garment = v[1];
                return v[1] == NONE ? 0 : 1;
            case "holds":
                if (out(v[0], 0, 7)) {
                    return NONE;
                }
                return shelves[v[0]].row != null ? 100 + shelves[v[0]].sort : shelves[v[0]].garment;
            case "says":
                return says(v[0], v[1]);
            case "wardrobe":
                return wardrobe(rowOf(v[0]));
            case "fault":
                return fault;
            default:
                return wardrobeCall(name, v);
        }
    }

    private int copy(int p, int q, int i, int j, int n) {
        refuseIf(out(p, 0, 7) || out(q, 0, 7), -1);
        Shelf from = shelves[p];
        Shelf to = shelves[q];
        refuseIf(from.garment != NONE || to.garment != NONE, -2);
        refuseIf(!from.isEmpty() && !to.isEmpty() && from.sort != to.sort, -2);
        refuseIf(from.isEmpty() || to.isEmpty(), -3);
        refuseIf(n < 0, -4);
        refuseIf(i < 0 || j < 0, -5);
        refuseIf((long) i + n > from.row.length || (long) j + n > to.row.length, -5);
        long[] before = from.row.clone();
        for (int at = 0; at < n; at++) {
            to.row[j + at] = before[i + at];
        }
        return 1;
    }

    private static boolean isUnder(int kind, int wanted) {
        int[][] under = {{0, 1, 2, 3, 4, 5, 6}, {1, 3}, {2, 5}, {3}, {4, 6}, {5}, {6}};
        return Arrays.stream(under[wanted]).anyMatch(one -> one == kind);
    }

    private int says(int s, int kind) {
        refuseIf(out(s, 0, 7) || out(kind, 0, 6), -1);
        Shelf shelf = shelves[s];
        refuseIf(shelf.row != null, -2);
        refuseIf(shelf.garment != NONE && !isUnder(now.garments.get(shelf.garment).kind, kind), -2);
        refuseIf(shelf.isEmpty(), -3);
        Garment shown = now.garments.get(shelf.garment);
        if (kind == 0) {
            return shown.habits();
        }
        if (kind == 4) {
            return HOURS - shown.habits();
        }
        if (kind == 2 || kind == 5) {
            return shown.step(0);
        }
        int hours = 0;
        for (int hour = 0; hour < HOURS; hour++) {
            hours += now.wouldGo(shelf.garment, hour) ? 1 : 0;
        }
        return hours;
    }

    private long wardrobeCall(String name, int[] v) {
        switch (name) {
            case "person":
                refuseIf(out(v[0], 0, 9), -6);
                refuseIf(now.people.size() == 6, -7);
                addPerson(now, v[0]);
                return now.people.size() - 1;
            case "garment":
                refuseIf(out(v[0], 0, 6), -1);
                refuseIf(out(v[1], 0, 9), -6);
                refuseIf(now.garments.size() == 8, -7);
                addGarment(now, v[0], v[1]);
                return now.garments.size() - 1;
            case "own":
                refuseIf(noPerson(v[0]), -1);
                refuseIf(out(v[1], 0, 11) || out(v[2], 0, 9), -6);
                int own = now.people.get(v[0]).own[v[1]];
                now.people.get(v[0]).own[v[1]] = v[2];
                return own;
            case "habit":
                refuseIf(noGarment(v[0]), -1);
                refuseIf(out(v[1], 0, 11) || out(v[2], 0, 9) || out(v[3], 0, 9), -6);
                refuseIf(v[2] == 0 && v[3] != 0 || v[2] != 0 && v[3] == 0, -6);
                int habit = now.garments.get(v[0]).habit[v[1]];
                now.garments.get(v[0]).habit[v[1]] = v[2];
                now.garments.get(v[0]).firm[v[1]] = v[3];
                return habit;
            case "wear":
                refuseIf(noGarment(v[0]) || v[1] != NONE && noPerson(v[1]), -1);
                int wearer = now.garments.get(v[0]).wearer;
                now.garments.get(v[0]).wearer = v[1];
                return wearer;
            case "will":
                refuseIf(noPerson(v[0]), -1);
                refuseIf(out(v[1], 0, 9), -6);
                int will = now.people.get(v[0]).will;
                now.people.get(v[0]).will = v[1];
                return will;
            case "garmentOf":
                return garmentOf(v[0], v[1]);
            case "personOf":
                return personOf(v[0], v[1]);
            default:
                return behindCall(name, v);
        }
    }

    private static void addPerson(State to, int will) {
        Person one = new Person();
        one.will = will;
        to.people.add(one);
    }

    private static void addGarment(State to, int kind, int a) {
        Garment one = new Garment();
        one.kind = kind;
        one.a = a;
        to.garments.add(one);
    }

    private int garmentOf(int g, int what) {
        refuseIf(noGarment(g), -5);
        Garment one = now.garments.get(g);
        for (int hour = 0; hour < HOURS; hour++) {
            if (what == 10 + hour) {
                return one.habit[hour];
            }
            if (what == 30 + hour) {
                return one.firm[hour];
            }
            if (what == 50 + hour) {
                return now.pull(g, hour);
            }
        }
        refuseIf(out(what, 0, 2), -5);
        return new int[] {one.kind, one.a, one.wearer + 1}[what];
    }

    private int personOf(int p, int what) {
        refuseIf(noPerson(p), -5);
        Person one = now.people.get(p);
        if (!out(what, 10, 21)) {
            return one.own[what - 10];
        }
        refuseIf(out(what, 0, 1), -5);
        if (what == 0) {
            return one.will;
        }
        return worn(p).stream().mapToInt(g -> 1 << g).sum();
    }

    private List<Integer> worn(int p) {
        List<Integer> all = new ArrayList<>();
        for (int g = 0; g < now.garments.size(); g++) {
            if (now.garments.get(g).wearer == p) {
                all.add(g);
            }
        }
        return all;
    }

    private long behindCall(String name, int[] v) {
        switch (name) {
            case "does":
                refuseIf(noPerson(v[0]), -1);
                refuseIf(out(v[1], 0, 60) || out(v[2], 0, 11), -6);
                return now.behind(v[1]).deed(v[0], v[2]);
            case "goes":
                refuseIf(noGarment(v[0]), -1);
                refuseIf(out(v[1], 0, 60) || out(v[2], 0, 11), -6);
                return now.behind(v[1]).alone(v[0], v[2]);
            case "behind":
                refuseIf(noGarment(v[0]), -1);
                refuseIf(out(v[3], 0, 1), -5);
                refuseIf(out(v[1], 0, 60) || out(v[2], 0, 11), -6);
                Garment then = now.behind(v[1]).garments.get(v[0]);
                return v[3] == 0 ? then.habit[v[2]] : then.firm[v[2]];
            case "settled":
                for (int n = 0; n <= 60; n++) {
                    if (now.behind(n).learnt().equals(now.behind(n + 1).learnt())) {
                        return n;
                    }
                }
                return NONE;
            case "wins":
                refuseIf(noPerson(v[0]), -1);
                int others = 0;
                for (int hour = 0; hour < HOURS; hour++) {
                    others += now.deed(v[0], hour) != now.people.get(v[0]).own[hour] ? 1 : 0;
                }
                return others;
            case "like":
                refuseIf(noGarment(v[0]) || noPerson(v[1]), -1);
                return now.like(v[0], v[1]);
            case "whose":
                refuseIf(noGarment(v[0]), -1);
                return now.whose(v[0]);
            case "fits":
                return fits(dayOf(v[0]));
            case "watch":
                return watch();
            case "dressed":
                return dressed(rowOf(v[0]), v[1], v[2]);
            default:
                return outcomeCall(name, v);
        }
    }

    private int fits(Shelf told) {
        int bits = 0;
        for (int p = 0; p < now.people.size(); p++) {
            boolean fits = true;
            for (int hour = 0; hour < HOURS; hour++) {
                fits &= told.as(hour) == -1 || told.as(hour) == now.deed(p, hour);
            }
            bits += fits ? 1 << p : 0;
        }
        return bits;
    }

    private int watch() {
        refuseIf(now.people.isEmpty(), -5);
        int best = 0;
        int most = 0;
        for (int hour = 0; hour < HOURS; hour++) {
            Set<Integer> deeds = new HashSet<>();
            for (int p = 0; p < now.people.size(); p++) {
                deeds.add(now.deed(p, hour));
            }
            deeds.remove(0);
            if (deeds.size() > most) {
                most = deeds.size();
                best = hour;
            }
        }
        return best;
    }

    private int dressed(Shelf told, int k, int i) {
        refuseIf(told.row.length < HOURS * now.people.size(), -5);
        boolean mayBe = !out(k, 1, 4) && k <= now.garments.size();
        refuseIf(mayBe && out(i, -1, k - 1), -5);
        refuseIf(!mayBe, -6);
        int bestDone = NONE;
        int[] best = new int[k];
        int ways = 1;
        for (int g = 0; g < k; g++) {
            ways *= now.people.size() + 1;
        }
        State trial = now.copy();
        for (int way = 0; way < ways; way++) {
            // the first garment's wearer is the highest digit, so rows of numbers go up
            int rest = way;
            for (int g = k - 1; g >= 0; g--) {
                trial.garments.get(g).wearer = rest % (now.people.size() + 1) - 1;
                rest /= now.people.size() + 1;
            }
            int done = doneAsTold(trial, told);
            if (done > bestDone) {
                bestDone = done;
                for (int g = 0; g < k; g++) {
                    best[g] = trial.garments.get(g).wearer;
                }
            }
        }
        return i == NONE ? bestDone : best[i] + 1;
    }

    private static int doneAsTold(State trial, Shelf told) {
        int done = 0;
        for (int p = 0; p < trial.people.size(); p++) {
            for (int hour = 0; hour < HOURS; hour++) {
                int deed = told.as(HOURS * p + hour);
                done += deed != -1 && deed == trial.deed(p, hour) ? 1 : 0;
            }
        }
        return done;
    }

    private long outcomeCall(String name, int[] v) {
        switch (name) {
            case "washed":
                refuseIf(noGarment(v[0]), -1);
                refuseIf(out(v[1], 0, 11), -6);
                for (int washes = 0; washes <= 9; washes++) {
                    if (behindWashes(v[0], washes).habit[v[1]] == 0) {
                        return washes;
                    }
                }
                return NONE;
            case "kept":
                refuseIf(noGarment(v[0]), -1);
                refuseIf(out(v[1], 0, 9), -6);
                return behindWashes(v[0], v[1]).habits();
            case "two":
                return two(v[0], v[1], v[2]);
            case "alone":
                refuseIf(out(v[0], 0, 11), -6);
                int bits = 0;
                for (int g = 0; g < now.garments.size(); g++) {
                    bits += now.alone(g, v[0]) != 0 ? 1 << g : 0;
                }
                return bits;
            case "home":
                refuseIf(noGarment(v[0]), -1);
                for (int hour = 0; hour < HOURS; hour++) {
                    if (now.alone(v[0], hour) != 0) {
                        return now.whose(v[0]) == NONE ? NONE : now.whose(v[0]) * 100 + hour;
                    }
                }
                return NONE;
            case "cure":
                return cure(v[0], v[1]);
            case "judge":
                return judge(v[0], v[1]);
            case "taught":
                return taught(v[0], v[1]);
            default:
                return truthCall(name, v);
        }
    }

    private Garment behindWashes(int g, int washes) {
        Garment washed = now.garments.get(g).copy();
        for (int i = 0; i < washes; i++) {
            washed.wash();
        }
        return washed;
    }

    private int two(int g, int other, int what) {
        refuseIf(noGarment(g) || noGarment(other), -1);
        refuseIf(out(what, 0, 1), -5);
        refuseIf(g == other, -6);
        int line = 0;
        int patch = 0;
        for (int hour = 0; hour < HOURS; hour++) {
            int first = now.garments.get(g).habit[hour];
            int second = now.garments.get(other).habit[hour];
            line += first != 0 && second != 0 && first != second ? 1 : 0;
            patch += first != 0 && now.pull(g, hour) > now.pull(other, hour) ? 1 : 0;
        }
        return what == 0 ? line : patch;
    }

    private int cure(int p, int what) {
        refuseIf(noPerson(p), -1);
        refuseIf(out(what, 0, 1), -5);
        State trial = now.copy();
        if (what == 0) {
            for (int will = 0; will <= 9; will++) {
                trial.people.get(p).will = will;
                if (trial.doesAllOwn(p)) {
                    return will;
                }
            }
            return NONE;
        }
        List<Integer> worn = worn(p);
        for (int fewest = 0; fewest <= worn.size(); fewest++) {
            for (int off = 0; off < 1 << now.garments.size(); off++) {
                boolean mayBe = Integer.bitCount(off) == fewest;
                for (int g = 0; g < now.garments.size(); g++) {
                    boolean isOff = (off & 1 << g) != 0;
                    mayBe &= !isOff || worn.contains(g);
                    trial.garments.get(g).wearer = isOff ? NONE : now.garments.get(g).wearer;
                }
                if (mayBe && trial.doesAllOwn(p)) {
                    return off;
                }
            }
        }
        throw new IllegalStateException("with nothing on he does all his own deeds");
    }

    private int judge(int s, int p) {
        refuseIf(out(s, 0, 7) || noPerson(p), -1);
        Shelf told = dayOf(s);
        for (int hour = 0; hour < HOURS; hour++) {
            if (out(told.as(hour), 0, 9) || told.as(hour) != now.deed(p, hour)) {
                return hour;
            }
        }
        return NONE;
    }

    private int taught(int s, int g) {
        refuseIf(out(s, 0, 7) || noGarment(g), -1);
        Shelf told = dayOf(s);
        for (int hour = 0; hour < HOURS; hour++) {
            refuseIf(out(told.as(hour), 0, 9), -6);
        }
        Garment pupil = now.garments.get(g).copy();
        for (int n = 0; n <= 60; n++) {
            boolean has = true;
            for (int hour = 0; hour < HOURS; hour++) {
                has &= told.as(hour) == 0 || told.as(hour) == pupil.habit[hour];
            }
            if (has) {
                return n;
            }
            for (int hour = 0; hour < HOURS; hour++) {
                pupil.learn(hour, told.as(hour));
            }
        }
        return NONE;
    }

    private long truthCall(String name, int[] v) {
        switch (name) {
            case "wash":
                refuseIf(noGarment(v[0]), -1);
                now.garments.get(v[0]).wash();
                return now.garments.get(v[0]).habits();
            case "days":
                refuseIf(out(v[0], 1, 60), -6);
                int done = 0;
                for (int i = 0; i < v[0]; i++) {
                    done += now.day();
                }
                return done;
            case "years":
                refuseIf(now.garments.isEmpty(), -5);
                refuseIf(out(v[0], 1, 60), -6);
                for (int i = 0; i < v[0]; i++) {
                    now.year();
                }
                return now.habits();
            case "seed":
                int seed = now.seed;
                now.seed = v[0];
                return seed;
            case "act":
                return act(v[0], v[1], v[2]);
            case "trace":
                return out(v[0], 0, Math.min(20, trace.size()) - 1) ? NONE : trace.get(v[0]);
            case "image":
                imaged = now.copy();
                return now.garments.size();
            case "restore":
                refuseIf(imaged == null, -6);
                now = imaged.copy();
                for (Shelf shelf : shelves) {
                    shelf.garment = shelf.garment >= now.garments.size() ? NONE : shelf.garment;
                }
                return now.garments.size();
            case "status":
                return status(v[0]);
            default:
                throw new IllegalStateException("no such call: " + name);
        }
    }

    private Bodies bodies(int kind, int m, int k) {
        switch (kind) {
            case 0:
                return new Bodies(m, k);
            case 1:
                return new Coat(m, k);
            case 2:
                return new Shirt(m, k);
            case 3:
                return new Uniform(m, k);
            case 4:
                return new Silk(m, k);
            case 5:
                return new Rag(m, k);
            default:
                return new Gown(m, k);
        }
    }

    private int act(int g, int move, int x) {
        trace.clear();
        if (noGarment(g) || out(move, 0, 2)) {
            return 0;
        }
        Bodies one = bodies(now.garments.get(g).kind, g, now.garments.get(g).a);
        return move == 0 ? one.sits(x) : move == 1 ? one.pulls(x) : one.fades(x);
    }

    private int status(int what) {
        if (!out(what, 11, 17)) {
            return refusals[what - 10];
        }
        int worn = (int) now.garments.stream().filter(g -> g.wearer != NONE).count();
        int[] all = {now.garments.size(), now.people.size(), now.habits(), worn, now.days, now.seed, trace.size()};
        return out(what, 0, 6) ? NONE : all[what];
    }

    // ---- texts

    private int wardrobe(Shelf told) {
        StringBuilder letters = new StringBuilder();
        for (int i = 0; i < told.row.length; i++) {
            // a sign that stands in no text, for all that are none
            letters.append(out(told.as(i), ' ', 'z') ? '?' : (char) told.as(i));
        }
        String text = letters.toString();
        int broken = firstBroken(text);
        State trial = now.copy();
        int wrong = firstWrong(text.substring(0, Math.min(broken, text.length())), trial);
        fault = wrong != NONE ? wrong : broken <= text.length() ? broken : NONE;
        refuseIf(fault != NONE, -6);
        now = trial;
        return text.split(";").length;
    }

    /** The first place with which no text goes on, by its letters alone; beyond the length if there is none. */
    private static int firstBroken(String text) {
        for (int length = 1; length <= text.length(); length++) {
            Matcher matcher = TEXT.matcher(text.substring(0, length));
            if (!matcher.matches() && !matcher.hitEnd()) {
                return length - 1;
            }
        }
        return TEXT.matcher(text).matches() ? text.length() + 1 : text.length();
    }

    /** The first place at which there is no room, or a number may not be; whole items are told over the state. */
    private static int firstWrong(String text, State over) {
        int start = 0;
        for (String item : text.split(";")) {
            int wrong = wrongIn(item, over);
            if (wrong != NONE) {
                return start + wrong;
            }
            if (item.matches(ITEM)) {
                tell(item, over);
            }
            start += item.length() + 1;
        }
        return NONE;
    }

    private static int wrongIn(String item, State over) {
        Matcher word = WORD.matcher(item);
        if (!word.lookingAt()) {
            return NONE;
        }
        if (word.group().equals("person") && over.people.size() == 6
                || word.group().equals("garment") && over.garments.size() == 8) {
            return 0;
        }
        Matcher digits = DIGITS.matcher(item);
        for (int at = 0; digits.find(); at++) {
            if (!mayBe(word.group(), at, Integer.parseInt(digits.group()), over)) {
                return digits.start();
            }
        }
        return NONE;
    }

    private static boolean mayBe(String word, int at, int number, State over) {
        boolean person = number < over.people.size();
        boolean garment = number < over.garments.size();
        switch (word) {
            case "person":
                return number <= 9;
            case "garment":
                return at == 0 ? number <= 6 : number <= 9;
            case "own":
                return at == 0 ? person : at == 1 ? number <= 11 : number <= 9;
            case "habit":
                return at == 0 ? garment : at == 1 ? number <= 11 : number >= 1 && number <= 9;
            case "wear":
                return at == 0 ? garment : person;
            default:
                return garment;
        }
    }

    private static void tell(String item, State over) {
        String[] words = item.split(" ");
        int[] v = new int[4];
        for (int i = 1; i < words.length; i++) {
            v[i - 1] = Integer.parseInt(words[i]);
        }
        switch (words[0]) {
            case "person":
                addPerson(over, v[0]);
                break;
            case "garment":
                addGarment(over, v[0], v[1]);
                break;
            case "own":
                over.people.get(v[0]).own[v[1]] = v[2];
                break;
            case "habit":
                over.garments.get(v[0]).habit[v[1]] = v[2];
                over.garments.get(v[0]).firm[v[1]] = v[3];
                break;
            case "wear":
                over.garments.get(v[0]).wearer = v[1];
                break;
            case "off":
                over.garments.get(v[0]).wearer = NONE;
                break;
            case "wash":
                over.garments.get(v[0]).wash();
                break;
            default:
                over.day();
                break;
        }
    }
}
