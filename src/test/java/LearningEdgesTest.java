/** Boundary cases of LEARNING and of WASH, in each promise whose call meets them. */
public final class LearningEdgesTest {
    private static final int HOURS = Edges.HOURS;
    private static final int NEW = 5;
    private static final int OLD = 4;

    // kind; habit, firm ahead; habit, firm behind a day on which the wearer did NEW at that hour
    private static final int[][] LEARNT = {
        {0, 0, 0, NEW, 1}, {0, NEW, 1, NEW, 2}, {0, NEW, 8, NEW, 9}, {0, NEW, 9, NEW, 9}, {0, OLD, 1, NEW, 1},
        {0, OLD, 2, OLD, 1}, {0, OLD, 9, OLD, 8},
        {1, 0, 0, NEW, 1}, {1, NEW, 1, NEW, 2}, {1, NEW, 8, NEW, 9}, {1, NEW, 9, NEW, 9}, {1, OLD, 1, NEW, 1},
        {1, OLD, 2, OLD, 1}, {1, OLD, 9, OLD, 8},
        {2, 0, 0, NEW, 1}, {2, NEW, 1, NEW, 3}, {2, NEW, 7, NEW, 9}, {2, NEW, 8, NEW, 9}, {2, NEW, 9, NEW, 9},
        {2, OLD, 1, NEW, 1}, {2, OLD, 2, NEW, 1}, {2, OLD, 3, OLD, 1}, {2, OLD, 9, OLD, 7},
        {3, 0, 0, NEW, 1}, {3, NEW, 1, NEW, 3}, {3, NEW, 7, NEW, 9}, {3, NEW, 8, NEW, 9}, {3, NEW, 9, NEW, 9},
        {3, OLD, 1, NEW, 1}, {3, OLD, 2, NEW, 1}, {3, OLD, 3, OLD, 1}, {3, OLD, 9, OLD, 7},
        {4, 0, 0, NEW, 9}, {4, NEW, 1, NEW, 1}, {4, NEW, 9, NEW, 9}, {4, OLD, 1, OLD, 1}, {4, OLD, 9, OLD, 9},
        {5, 0, 0, NEW, 1}, {5, NEW, 1, NEW, 4}, {5, NEW, 6, NEW, 9}, {5, NEW, 7, NEW, 9}, {5, NEW, 8, NEW, 9},
        {5, NEW, 9, NEW, 9}, {5, OLD, 1, NEW, 1}, {5, OLD, 2, NEW, 1}, {5, OLD, 3, NEW, 1}, {5, OLD, 4, OLD, 1},
        {5, OLD, 9, OLD, 6},
        {6, 0, 0, NEW, 9}, {6, NEW, 1, NEW, 1}, {6, NEW, 9, NEW, 9}, {6, OLD, 1, OLD, 1}, {6, OLD, 9, OLD, 9}
    };

    // kind; firm ahead and behind a wash
    private static final int[][] WASHED = {
        {0, 9, 6}, {0, 4, 1}, {0, 3, 0}, {0, 2, 0}, {0, 1, 0},
        {1, 9, 8}, {1, 2, 1}, {1, 1, 0},
        {2, 9, 4}, {2, 6, 1}, {2, 5, 0}, {2, 4, 0}, {2, 1, 0},
        {3, 9, 8}, {3, 2, 1}, {3, 1, 0},
        {4, 9, 9}, {4, 2, 2}, {4, 1, 1},
        {5, 9, 7}, {5, 3, 1}, {5, 2, 0}, {5, 1, 0},
        {6, 9, 0}, {6, 8, 0}, {6, 1, 0}
    };

    public static void main(String[] args) throws Exception {
        Edges.run(LearningEdgesTest.class);
    }

    /** The garment is number 0; a gown at its hour 0, number 1, pulls 27 there and makes the person do NEW. */
    private static ClothesRemember pupil(int[] of) {
        ClothesRemember x = new ClothesRemember();
        x.person(9);
        x.garment(of[0], 1);
        x.garment(6, 0);
        x.habit(0, 0, of[1], of[2]);
        x.habit(1, 0, NEW, 9);
        x.wear(0, 0);
        x.wear(1, 0);
        return x;
    }

    private static String name(int[] of) {
        return "kind " + of[0] + " habit " + of[1] + " firm " + of[2];
    }

    private static void dueLearnt(int[] of, ClothesRemember x) {
        Check.due(name(of) + ": habit", x.garmentOf(0, 10), of[3]);
        Check.due(name(of) + ": firm", x.garmentOf(0, 30), of[4]);
        for (int hour = 1; hour < HOURS; hour++) {
            Check.due(name(of) + ": no habit at " + hour, x.garmentOf(0, 10 + hour), 0);
            Check.due(name(of) + ": not firm at " + hour, x.garmentOf(0, 30 + hour), 0);
        }
    }

    static void promise17ADayInATextLearns() {
        for (int[] of : LEARNT) {
            ClothesRemember x = pupil(of);
            Check.due("told", Check.tell(x, "day"), 1);
            dueLearnt(of, x);
        }
    }

    static void promise19DeedsBehindADay() {
        for (int[] of : LEARNT) {
            ClothesRemember x = pupil(of);
            Check.due(name(of) + " behind a day", x.does(0, 1, 0), NEW);
            ClothesRemember y = pupil(of);
            y.days(1);
            y.wear(1, -1);
            y.will(0, 0);
            // what is learnt by then is done by its own pull
            Check.due(name(of) + " in truth", y.does(0, 0, 0), y.garmentOf(0, 50) > 0 ? of[3] : 0);
        }
    }

    static void promise21LearntBehindADay() {
        for (int[] of : LEARNT) {
            Check.due(name(of) + ": habit", pupil(of).behind(0, 1, 0, 0), of[3]);
            Check.due(name(of) + ": firm", pupil(of).behind(0, 1, 0, 1), of[4]);
            Check.due(name(of) + ": habit today", pupil(of).behind(0, 0, 0, 0), of[1]);
            Check.due(name(of) + ": firm today", pupil(of).behind(0, 0, 0, 1), of[2]);
        }
    }

    static void promise21NothingDoneNothingLearnt() {
        for (int kind = 0; kind <= 6; kind++) {
            for (int firm = 0; firm <= 1; firm++) {
                ClothesRemember x = new ClothesRemember();
                x.person(9);
                x.garment(kind, 0);
                x.habit(0, 0, firm == 0 ? 0 : OLD, firm);
                x.wear(0, 0);
                // a gown at its hour 0 with firm 1 would pull 11
                if (kind != 6) {
                    Check.due("kind " + kind + " habit", x.behind(0, 60, 0, 0), firm == 0 ? 0 : OLD);
                    Check.due("kind " + kind + " firm", x.behind(0, 60, 0, 1), firm);
                }
            }
        }
    }

    static void promise21NobodysLearnsNothing() {
        for (int[] of : LEARNT) {
            ClothesRemember x = pupil(of);
            x.wear(0, -1);
            Check.due(name(of) + ": habit", x.behind(0, 60, 0, 0), of[1]);
            Check.due(name(of) + ": firm", x.behind(0, 60, 0, 1), of[2]);
        }
    }

    static void promise22SettledOrNot() {
        for (int[] of : LEARNT) {
            boolean isSame = of[1] == of[3] && of[2] == of[4];
            Check.due(name(of), pupil(of).settled() == 0 ? 1 : 0, isSame ? 1 : 0);
        }
    }

    static void promise36TaughtBehindFewDays() {
        for (int[] of : LEARNT) {
            ClothesRemember x = pupil(of);
            x.row(0, 0, 12);
            x.set(0, 0, NEW);
            int taught = x.taught(0, 0);
            if (of[1] == NEW) {
                Check.due(name(of) + " has it", taught, 0);
            } else if (of[3] == NEW) {
                Check.due(name(of) + " has it behind a day", taught, 1);
            } else if (of[2] == of[4]) {
                Check.due(name(of) + " never", taught, -1);
            } else {
                Check.due(name(of) + " later", taught > 1 ? 1 : 0, 1);
            }
        }
    }

    static void promise38ADayLearns() {
        for (int[] of : LEARNT) {
            ClothesRemember x = pupil(of);
            Check.due(name(of) + ": one deed", x.days(1), 1);
            dueLearnt(of, x);
        }
    }

    static void promise39ADayOfYearsLearns() {
        for (int[] of : LEARNT) {
            ClothesRemember x = pupil(of);
            x.wear(0, -1);
            x.seed(Draws.seedFor(2, 0, 4, 3));
            x.years(1);
            dueLearnt(of, x);
        }
    }

    // ---- washes

    private static ClothesRemember soiled(int kind, int firm) {
        ClothesRemember x = new ClothesRemember();
        x.garment(kind, 9);
        x.garment(kind, 9);
        for (int hour = 0; hour < HOURS; hour++) {
            x.habit(0, hour, 7, firm);
        }
        x.habit(1, 0, 7, firm);
        return x;
    }

    private static void dueWashed(int[] of, ClothesRemember x) {
        String name = "kind " + of[0] + " firm " + of[1];
        for (int hour = 0; hour < HOURS; hour++) {
            Check.due(name + ": habit at " + hour, x.garmentOf(0, 10 + hour), of[2] == 0 ? 0 : 7);
            Check.due(name + ": firm at " + hour, x.garmentOf(0, 30 + hour), of[2]);
        }
        Check.due(name + ": the other's", x.garmentOf(1, 30), of[1]);
    }

    static void promise17AWashInATextAtEachHour() {
        for (int[] of : WASHED) {
            ClothesRemember x = soiled(of[0], of[1]);
            Check.due("told", Check.tell(x, "wash 0"), 1);
            dueWashed(of, x);
        }
    }

    static void promise29OnceOrMore() {
        for (int[] of : WASHED) {
            String name = "kind " + of[0] + " firm " + of[1];
            int times = soiled(of[0], of[1]).washed(0, 11);
            if (of[2] == 0) {
                Check.due(name, times, 1);
            } else if (of[2] == of[1]) {
                Check.due(name, times, -1);
            } else {
                Check.due(name, times, 1 + soiled(of[0], of[2]).washed(0, 11));
            }
        }
    }

    static void promise30KeptBehindOneWash() {
        for (int[] of : WASHED) {
            Check.due("kind " + of[0] + " firm " + of[1], soiled(of[0], of[1]).kept(0, 1), of[2] == 0 ? 0 : 12);
        }
    }

    static void promise37AtEachHour() {
        for (int[] of : WASHED) {
            ClothesRemember x = soiled(of[0], of[1]);
            Check.due("kind " + of[0] + " firm " + of[1], x.wash(0), of[2] == 0 ? 0 : 12);
            dueWashed(of, x);
        }
    }

    static void promise39AWashOfYears() {
        for (int[] of : WASHED) {
            ClothesRemember x = soiled(of[0], of[1]);
            x.seed(Draws.seedFor(2, 0, 4, 0));
            Check.due("kind " + of[0] + " firm " + of[1], x.years(1), (of[2] == 0 ? 0 : 12) + 1);
            dueWashed(of, x);
        }
    }
}
