/**
 * Boundary cases of PULLS, in each promise whose call meets them: how much a garment pulls by its kind, above a will or
 * not, enough to go by itself or not.
 */
public final class PullsEdgesTest {
    private static final int HOURS = Edges.HOURS;
    private static final int OWN = 1;
    private static final int HABIT = 5;

    // kind, firm, a, hour, how many other uniforms have the same habit, and what it pulls then
    private static final int[][] CASES = {
        {0, 1, 9, 0, 0, 1}, {0, 9, 9, 9, 0, 9}, {0, 9, 0, 11, 7, 9},
        {1, 1, 0, 0, 0, 1}, {1, 9, 0, 11, 0, 9}, {1, 9, 1, 11, 0, 10}, {1, 1, 8, 8, 0, 9}, {1, 1, 9, 9, 0, 10},
        {1, 5, 4, 0, 0, 9}, {1, 5, 5, 0, 0, 10}, {1, 9, 9, 9, 0, 18}, {1, 9, 9, 3, 7, 18},
        {2, 1, 9, 9, 0, 1}, {2, 9, 9, 9, 0, 9}, {2, 9, 9, 9, 7, 9},
        {3, 1, 0, 0, 0, 2}, {3, 1, 0, 0, 1, 3}, {3, 1, 0, 11, 7, 9}, {3, 1, 1, 11, 7, 10}, {3, 2, 0, 11, 7, 10},
        {3, 8, 0, 4, 0, 9}, {3, 8, 0, 4, 1, 10}, {3, 8, 1, 4, 0, 10}, {3, 9, 0, 4, 0, 10}, {3, 9, 9, 9, 0, 19},
        {3, 9, 9, 9, 7, 26},
        {4, 1, 9, 9, 0, 2}, {4, 4, 9, 9, 0, 8}, {4, 5, 0, 0, 0, 10}, {4, 9, 9, 9, 0, 18}, {4, 9, 9, 9, 7, 18},
        {5, 1, 9, 9, 0, 0}, {5, 2, 9, 9, 0, 1}, {5, 3, 9, 9, 0, 1}, {5, 8, 0, 0, 0, 4}, {5, 9, 0, 0, 0, 4},
        {5, 9, 9, 9, 7, 4},
        {6, 1, 0, 0, 0, 11}, {6, 1, 0, 1, 0, 2}, {6, 4, 3, 4, 0, 8}, {6, 5, 3, 4, 0, 10}, {6, 1, 9, 9, 0, 11},
        {6, 1, 9, 8, 0, 2}, {6, 1, 9, 10, 0, 2}, {6, 9, 9, 9, 0, 27}, {6, 9, 9, 11, 0, 18}, {6, 9, 0, 0, 7, 27}
    };

    // the steps of kinds, in the document's order of numbers
    private static final int[] STEPS = {1, 1, 2, 2, 0, 3, 0};

    public static void main(String[] args) throws Exception {
        Edges.run(PullsEdgesTest.class);
    }

    /** One of a will, and the case's garment as number 0; nobody wears it yet. */
    private static ClothesRemember made(int[] of, int will) {
        ClothesRemember x = new ClothesRemember();
        x.person(will);
        x.own(0, of[3], OWN);
        x.garment(of[0], of[2]);
        x.habit(0, of[3], HABIT, of[1]);
        for (int other = 1; other <= of[4]; other++) {
            x.garment(3, 9);
            x.habit(other, of[3], HABIT, 9);
        }
        return x;
    }

    private static ClothesRemember worn(int[] of, int will) {
        ClothesRemember x = made(of, will);
        x.wear(0, 0);
        return x;
    }

    private static String name(int[] of) {
        return "kind " + of[0] + " firm " + of[1] + " a " + of[2] + " hour " + of[3] + " others " + of[4];
    }

    private static boolean canGo(int[] of) {
        return (of[0] == 1 || of[0] == 3 || of[0] == 6) && of[5] >= 10;
    }

    private static boolean wins(int[] of, int will) {
        return of[5] > will;
    }

    static void promise08HoursToGoByPull() {
        for (int[] of : CASES) {
            if (of[0] == 1 || of[0] == 3 || of[0] == 6) {
                ClothesRemember x = made(of, 0);
                x.show(0, 0);
                Check.due(name(of), x.says(0, of[0]), canGo(of) ? 1 : 0);
            }
        }
    }

    static void promise15Pull() {
        for (int[] of : CASES) {
            Check.due(name(of), made(of, 0).garmentOf(0, 50 + of[3]), of[5]);
            Check.due(name(of) + ", worn", worn(of, 9).garmentOf(0, 50 + of[3]), of[5]);
        }
    }

    static void promise15NoPullWithoutAHabit() {
        for (int kind = 0; kind <= 6; kind++) {
            ClothesRemember x = new ClothesRemember();
            x.garment(kind, 4);
            x.garment(3, 9);
            for (int hour = 0; hour < HOURS; hour++) {
                Check.due("kind " + kind + " at " + hour, x.garmentOf(0, 50 + hour), 0);
            }
        }
    }

    static void promise15UniformsOfAnotherHabitOrHourDoNotCount() {
        ClothesRemember x = new ClothesRemember();
        x.garment(3, 0);
        x.garment(3, 0);
        x.garment(1, 0);
        x.habit(0, 4, 5, 3);
        x.habit(1, 4, 6, 3);
        x.habit(1, 3, 5, 3);
        x.habit(2, 4, 5, 3);
        Check.due("itself alone", x.garmentOf(0, 54), 4);
        x.habit(1, 4, 5, 1);
        Check.due("and the other", x.garmentOf(0, 54), 5);
    }

    static void promise17ADayInATextByPull() {
        for (int[] of : CASES) {
            for (int will = 0; will <= 9; will++) {
                ClothesRemember x = worn(of, will);
                Check.due(name(of) + ", told", Check.tell(x, "day"), 1);
                dueLearnt(name(of) + " will " + will, x, of, will);
            }
        }
    }

    /** Behind one day: its own habit firmer, or on the way to the wearer's deed. */
    private static void dueLearnt(String what, ClothesRemember x, int[] of, int will) {
        int step = STEPS[of[0]];
        int firm = wins(of, will) ? Math.min(9, of[1] + step) : of[1] - step;
        boolean isLost = firm <= 0;
        Check.due(what + ": habit", x.garmentOf(0, 10 + of[3]), isLost ? OWN : HABIT);
        Check.due(what + ": firm", x.garmentOf(0, 30 + of[3]), isLost ? 1 : firm);
    }

    static void promise19AboveTheWillOrNot() {
        for (int[] of : CASES) {
            for (int will = 0; will <= 9; will++) {
                Check.due(name(of) + " will " + will, worn(of, will).does(0, 0, of[3]), wins(of, will) ? HABIT : OWN);
            }
        }
    }

    static void promise20AtLeast10() {
        for (int[] of : CASES) {
            Check.due(name(of), made(of, 0).goes(0, 0, of[3]), canGo(of) ? HABIT : 0);
            Check.due(name(of) + ", worn", worn(of, 0).goes(0, 0, of[3]), 0);
            Check.due(name(of) + ", in 60 days", made(of, 0).goes(0, 60, of[3]), canGo(of) ? HABIT : 0);
        }
    }

    static void promise21LearntByPull() {
        for (int[] of : CASES) {
            for (int will = 0; will <= 9; will++) {
                ClothesRemember x = worn(of, will);
                int habit = x.behind(0, 1, of[3], 0);
                int firm = x.behind(0, 1, of[3], 1);
                x.days(1);
                dueLearnt(name(of) + " will " + will, x, of, will);
                Check.due(name(of) + " will " + will + ": asked", habit, x.garmentOf(0, 10 + of[3]));
                Check.due(name(of) + " will " + will + ": asked", firm, x.garmentOf(0, 30 + of[3]));
            }
        }
    }

    static void promise22SettledByPull() {
        for (int[] of : CASES) {
            boolean staysFirm = of[1] == 9 || STEPS[of[0]] == 0;
            for (int will = 0; will <= 9; will++) {
                boolean isSettled = STEPS[of[0]] == 0 || wins(of, will) && staysFirm;
                Check.due(name(of) + " will " + will, worn(of, will).settled() == 0 ? 1 : 0, isSettled ? 1 : 0);
            }
            Check.due(name(of) + ", nobody's", made(of, 0).settled(), 0);
        }
    }

    static void promise23WinsByPull() {
        for (int[] of : CASES) {
            for (int will = 0; will <= 9; will++) {
                Check.due(name(of) + " will " + will, worn(of, will).wins(0), wins(of, will) ? 1 : 0);
            }
        }
    }

    /** A told day on shelf 0: nothing else but one deed at the case's hour. */
    private static void tellOne(ClothesRemember x, int hour, int deed, int others) {
        x.row(0, 0, 12);
        for (int i = 0; i < HOURS; i++) {
            x.set(0, i, i == hour ? deed : others);
        }
    }

    static void promise26FitsByPull() {
        for (int[] of : CASES) {
            for (int will = 0; will <= 9; will++) {
                ClothesRemember x = worn(of, will);
                tellOne(x, of[3], HABIT, 0);
                Check.due(name(of) + " will " + will, x.fits(0), wins(of, will) ? 1 : 0);
                tellOne(x, of[3], OWN, -1);
                Check.due(name(of) + " own, will " + will, x.fits(0), wins(of, will) ? 0 : 1);
            }
        }
    }

    static void promise27WatchByPull() {
        for (int[] of : CASES) {
            for (int will = 0; will <= 9; will++) {
                ClothesRemember x = worn(of, will);
                x.own(0, of[3], 0);
                // where nothing is done at the case's hour, this one is the first with a deed
                int other = of[3] == 11 ? 0 : 11;
                x.own(0, other, 2);
                boolean isFirst = of[3] < other;
                int due = wins(of, will) && isFirst ? of[3] : other;
                Check.due(name(of) + " will " + will, x.watch(), due);
            }
        }
    }

    static void promise28DressedByPull() {
        for (int[] of : CASES) {
            for (int will = 0; will <= 9; will++) {
                ClothesRemember x = made(of, will);
                tellOne(x, of[3], HABIT, -1);
                Check.due(name(of) + " will " + will, x.dressed(0, 1, -1), wins(of, will) ? 1 : 0);
                Check.due(name(of) + " will " + will + ": who", x.dressed(0, 1, 0), wins(of, will) ? 1 : 0);
            }
        }
    }

    /** Against coats of a 9 or 0 that pull just as much, one more and one less. */
    static void promise31PatchByPull() {
        for (int[] of : CASES) {
            for (int pull = Math.max(1, of[5] - 1); pull <= of[5] + 1 && pull <= 18 && of[4] < 7; pull++) {
                ClothesRemember x = made(of, 0);
                int coat = x.garment(1, pull > 9 ? 9 : 0);
                x.habit(coat, of[3], HABIT, pull > 9 ? pull - 9 : pull);
                Check.due(name(of) + " onto " + pull, x.two(0, coat, 1), of[5] > pull ? 1 : 0);
                Check.due(pull + " onto " + name(of), x.two(coat, 0, 1), pull > of[5] ? 1 : 0);
            }
        }
    }

    static void promise32AloneByPull() {
        for (int[] of : CASES) {
            Check.due(name(of), made(of, 0).alone(of[3]) & 1, canGo(of) ? 1 : 0);
            Check.due(name(of) + ", worn", worn(of, 0).alone(of[3]) & 1, 0);
        }
    }

    static void promise33HomeByPull() {
        for (int[] of : CASES) {
            ClothesRemember x = made(of, 0);
            x.own(0, of[3], HABIT);
            Check.due(name(of), x.home(0), canGo(of) ? of[3] : -1);
        }
    }

    static void promise34CureByPull() {
        for (int[] of : CASES) {
            Check.due(name(of), worn(of, 9).cure(0, 0), of[5] <= 9 ? of[5] : -1);
        }
    }

    static void promise34StripByPull() {
        for (int[] of : CASES) {
            for (int will = 0; will <= 9; will++) {
                Check.due(name(of) + " will " + will, worn(of, will).cure(0, 1), wins(of, will) ? 1 : 0);
            }
        }
    }

    static void promise35JudgedByPull() {
        for (int[] of : CASES) {
            for (int will = 0; will <= 9; will++) {
                ClothesRemember x = worn(of, will);
                tellOne(x, of[3], HABIT, 0);
                Check.due(name(of) + " will " + will, x.judge(0, 0), wins(of, will) ? -1 : of[3]);
            }
        }
    }

    static void promise38DeedsByPull() {
        for (int[] of : CASES) {
            for (int will = 0; will <= 9; will++) {
                ClothesRemember x = worn(of, will);
                x.own(0, of[3], 0);
                Check.due(name(of) + " will " + will, x.days(1), wins(of, will) ? 1 : 0);
            }
        }
    }

    static void promise39YearsByPull() {
        for (int[] of : CASES) {
            for (int will = 0; will <= 9; will++) {
                ClothesRemember x = made(of, will);
                x.seed(Draws.seedFor(1 + of[4], 0, 4, 2));
                x.years(1);
                Check.due(name(of) + ": somebody wears it", x.garmentOf(0, 2), 1);
                dueLearnt(name(of) + " will " + will, x, of, will);
            }
        }
    }
}
