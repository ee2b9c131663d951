/** Promises 24 to 36: what comes of it, asked and tried. */
public final class OutcomesTest {
    private static final int MIN = Integer.MIN_VALUE;
    private static final int MAX = Integer.MAX_VALUE;
    private static final int HOURS = Worlds.HOURS;

    public static void main(String[] args) {
        likenesses();
        fitting();
        watching();
        dressing();
        dressingRefused();
        washing();
        pairs();
        goingHome();
        cures();
        judging();
        teaching();
        for (int number = 0; number < Worlds.HOW_MANY; number++) {
            likenessesOf(number);
            deedsToldOf(number);
            watchOf(number);
            dressingTried(number);
            washingTried(number);
            pairsOf(number);
            homesOf(number);
            curesTried(number);
            stripsTried(number);
        }
        Check.end("OutcomesTest");
    }

    private static void likenesses() {
        ClothesRemember x = Check.told("person 0;person 0;person 0;garment 0 0;garment 0 0",
            "own 1 0 3;own 2 0 3;own 1 1 4;own 2 5 4;habit 0 0 3 1;habit 0 1 5 1;habit 0 5 4 9");
        Check.due("24: none", x.like(0, 0), 0);
        Check.due("24: one", x.like(0, 1), 1);
        Check.due("24: two", x.like(0, 2), 2);
        Check.due("24: 0 aside", x.like(1, 0), 0);
        Check.due("25: the most", x.whose(0), 2);
        x.own(1, 5, 4);
        Check.due("25: of several the first", x.whose(0), 1);
        Check.due("25: none at all", x.whose(1), -1);
        Check.due("24: no garment", x.like(2, 0), -1);
        Check.due("24: nobody", x.like(0, 3), -1);
        Check.due("24: nobody", x.like(0, -1), -1);
        Check.due("24: no garment", x.like(-1, 0), -1);
        Check.due("25: no garment", x.whose(2), -11);
        Check.due("25: no garment", x.whose(-1), -11);
        Check.dueRefusals("24", x, 6);
    }

    private static void fitting() {
        ClothesRemember x = Check.told("person 0;person 9;person 9;garment 0 0;own 0 0 1;own 1 0 1;own 2 11 2",
            "habit 0 0 5 5;wear 0 0");
        Check.fill(x, 0, 3, -1, -1, -1, -1, -1, -1, -1, -1, -1, -1, -1, -1);
        Check.due("26: nothing seen fits all", x.fits(0), 7);
        x.set(0, 0, 1);
        Check.due("26: as they are dressed", x.fits(0), 2);
        x.set(0, 0, 5);
        Check.due("26: the garment's deed", x.fits(0), 1);
        x.set(0, 0, 0);
        x.set(0, 11, 2);
        Check.due("26: 0 is no deed", x.fits(0), 4);
        x.set(0, 11, (7L << 32) + 2);
        Check.due("26: lowest 32 bits", x.fits(0), 4);
        x.set(0, 11, 0xFFFFFFFFL);
        Check.due("26: -1 as lowest bits", x.fits(0), 4);
        x.set(0, 11, -2);
        Check.due("26: another number", x.fits(0), 0);
        x.set(0, 11, 10);
        Check.due("26: another number", x.fits(0), 0);
        Check.fill(x, 1, 0, -1, -1, -1, -1, -1, -1, -1, -1, -1, -1, -1, -1, 77, 5);
        Check.due("26: beyond 12", x.fits(1), 7);
        x.row(2, 0, 11);
        x.show(3, 0);
        Check.due("26: no shelf", x.fits(-1), -1);
        Check.due("26: no shelf", x.fits(8), -1);
        Check.due("26: a garment", x.fits(3), -2);
        Check.due("26: nothing", x.fits(4), -3);
        Check.due("26: fewer", x.fits(2), -5);
        Check.dueRefusals("26", x, 2, 1, 1, 0, 1);
        ClothesRemember nobody = new ClothesRemember();
        nobody.row(0, 0, 12);
        Check.due("26: nobody there", nobody.fits(0), 0);
    }

    private static void watching() {
        ClothesRemember x = new ClothesRemember();
        Check.due("27: nobody", x.watch(), -5);
        x.garment(1, 9);
        x.habit(0, 3, 1, 9);
        Check.due("27: a garment alone is nobody", x.watch(), -5);
        Check.tell(x, "person 9;person 9;person 9");
        Check.due("27: nothing done", x.watch(), 0);
        x.own(0, 5, 1);
        Check.due("27: one", x.watch(), 5);
        Check.tell(x, "own 0 4 2;own 1 4 2;own 2 4 2");
        Check.due("27: alike ones are one, the first", x.watch(), 4);
        x.own(1, 5, 2);
        Check.due("27: two", x.watch(), 5);
        x.own(1, 7, 2);
        Check.due("27: 0 aside", x.watch(), 5);
        Check.tell(x, "own 0 11 1;own 1 11 2;own 2 11 3");
        Check.due("27: three", x.watch(), 11);
        Check.dueRefusals("27", x, 0, 0, 0, 0, 2);
    }

    private static void dressing() {
        ClothesRemember x = Check.told("person 0;person 0;garment 0 0;garment 0 0;garment 1 9",
            "habit 0 0 1 5;habit 1 1 2 5;habit 2 2 3 1;wear 2 1;wear 0 0");
        long[] told = new long[24];
        java.util.Arrays.fill(told, -1);
        Check.fill(x, 0, 1, told);
        Check.due("28: any is not counted", x.dressed(0, 2, -1), 0);
        Check.due("28: of several the first", x.dressed(0, 2, 0), 0);
        x.set(0, 12, 1);
        Check.due("28: one", x.dressed(0, 2, -1), 1);
        Check.due("28: the second wears it", x.dressed(0, 2, 0), 2);
        Check.due("28: nobody the other", x.dressed(0, 2, 1), 0);
        x.set(0, 14, 3);
        x.set(0, 1, 2);
        Check.due("28: others stay as they are", x.dressed(0, 2, -1), 3);
        Check.due("28: the first wears it", x.dressed(0, 2, 1), 1);
        x.set(0, 13, 2);
        Check.due("28: one of both", x.dressed(0, 2, -1), 3);
        Check.due("28: the first of both", x.dressed(0, 2, 1), 1);
        x.set(0, 0, 0);
        Check.due("28: 0 is told, too", x.dressed(0, 2, -1), 4);
        x.set(0, 5, 77);
        Check.due("28: what nobody does", x.dressed(0, 2, -1), 4);
        Check.due("28: three may be", x.dressed(0, 3, 2), 2);
        Check.due("28: nothing is changed", x.garmentOf(0, 2), 1);
        Check.fill(x, 1, 3, 0);
        x.row(1, 3, 24);
        x.set(1, 12, (5L << 40) + 1);
        Check.due("28: lowest 32 bits", x.dressed(1, 1, 0), 2);
        x.row(1, 2, 24);
        for (int i = 0; i < 24; i++) {
            x.set(1, i, 11);
        }
        Check.due("28: none can be done", x.dressed(1, 3, -1), 0);
        Check.due("28: the first way of all", new long[] {x.dressed(1, 3, 0), x.dressed(1, 3, 1), x.dressed(1, 3, 2)},
            0, 0, 0);
        dressingTheLast();
        ClothesRemember nobody = Check.told("garment 0 0;garment 0 0;garment 0 0;garment 0 0");
        nobody.row(0, 0, 0);
        Check.due("28: nobody there", nobody.dressed(0, 4, -1), 0);
        Check.due("28: nobody wears it", nobody.dressed(0, 4, 3), 0);
    }

    /** Four garments on the last of six people: the last way of all. */
    private static void dressingTheLast() {
        ClothesRemember x = Check.told("person 0;person 0;person 0;person 0;person 0;person 0",
            "garment 0 0;garment 0 0;garment 0 0;garment 0 0",
            "habit 0 8 1 5;habit 1 9 2 5;habit 2 10 3 5;habit 3 11 4 5");
        x.row(0, 0, 72);
        for (int i = 0; i < 72; i++) {
            x.set(0, i, i >= 68 ? i - 67 : -1);
        }
        Check.due("28: all four", x.dressed(0, 4, -1), 4);
        Check.due("28: on the last", new long[] {x.dressed(0, 4, 0), x.dressed(0, 4, 1), x.dressed(0, 4, 2),
            x.dressed(0, 4, 3)}, 6, 6, 6, 6);
    }

    private static void dressingRefused() {
        ClothesRemember x = Check.told("person 0;person 0;garment 0 0;garment 0 0;garment 0 0");
        x.row(0, 0, 24);
        x.row(1, 0, 23);
        x.show(2, 0);
        Check.due("28: no shelf", x.dressed(8, 0, 9), -1);
        Check.due("28: a garment", x.dressed(2, 0, 9), -2);
        Check.due("28: nothing", x.dressed(3, 0, 9), -3);
        Check.due("28: fewer elements", x.dressed(1, 1, -1), -5);
        Check.due("28: fewer elements ahead of k", x.dressed(1, 0, -1), -5);
        Check.due("28: no such i", x.dressed(0, 1, 1), -5);
        Check.due("28: no such i", x.dressed(0, 3, 3), -5);
        Check.due("28: no such i", x.dressed(0, 3, -2), -5);
        Check.due("28: no such i", x.dressed(0, 3, MAX), -5);
        Check.due("28: no such i", x.dressed(0, 3, MIN), -5);
        Check.due("28: k 0", x.dressed(0, 0, -1), -6);
        Check.due("28: k 5", x.dressed(0, 5, 0), -6);
        Check.due("28: i is not looked at", x.dressed(0, 0, 0), -6);
        Check.due("28: i is not looked at", x.dressed(0, 5, 99), -6);
        Check.due("28: fewer garments", x.dressed(0, 4, -1), -6);
        Check.due("28: fewer garments", x.dressed(0, 4, 2), -6);
        Check.due("28: far", x.dressed(0, MAX, MIN), -6);
        Check.due("28: far", x.dressed(0, MIN, 0), -6);
        Check.dueRefusals("28", x, 1, 1, 1, 0, 7, 8);
    }

    private static void washing() {
        int[] times = {3, 9, 2, 9, -1, 5, 1};
        for (int kind = 0; kind <= 6; kind++) {
            ClothesRemember x = Check.told("garment " + kind + " 0;habit 0 11 4 9;habit 0 3 4 1");
            Check.due("29: times of kind " + kind, x.washed(0, 11), times[kind]);
            Check.due("29: a weak habit", x.washed(0, 3), kind == 4 ? -1 : 1);
            Check.due("29: no habit", x.washed(0, 0), 0);
            int w = Math.max(times[kind], 1);
            Check.due("30: none washed of kind " + kind, x.kept(0, 0), 2);
            Check.due("30: behind one less", x.kept(0, w - 1), w == 1 || kind == 4 ? 2 : 1);
            Check.due("30: behind all", x.kept(0, w), kind == 4 ? 2 : 0);
            Check.due("30: behind 9", x.kept(0, 9), kind == 4 ? 2 : 0);
            Check.due("30: nothing is changed", x.status(2), 2);
        }
        ClothesRemember x = Check.told("garment 0 0");
        Check.due("29: nobody first", x.washed(1, 12), -11);
        Check.due("29: nobody", x.washed(-1, 0), -11);
        Check.due("29: hour", x.washed(0, 12), -16);
        Check.due("29: hour", x.washed(0, -1), -16);
        Check.due("30: nobody first", x.kept(1, 10), -1);
        Check.due("30: nobody", x.kept(-1, 0), -1);
        Check.due("30: times", x.kept(0, 10), -6);
        Check.due("30: times", x.kept(0, -1), -6);
        Check.dueRefusals("29 and 30", x, 4, 0, 0, 0, 0, 4);
    }

    private static void pairs() {
        ClothesRemember x = Check.told("garment 0 0;garment 2 0;garment 5 0",
            "habit 0 0 1 5;habit 1 0 2 5;habit 0 1 3 6;habit 1 1 3 5;habit 0 2 4 1;habit 1 3 4 9;habit 2 4 4 1");
        Check.due("31: both, and not the same", x.two(0, 1, 0), 1);
        Check.due("31: the other way about", x.two(1, 0, 0), 1);
        Check.due("31: what pulls more, same or not", x.two(0, 1, 1), 2);
        Check.due("31: of both alike the second's", x.two(1, 0, 1), 1);
        Check.due("31: half of 1 is 0", x.two(2, 0, 1), 0);
        Check.due("31: nobody first", x.two(3, 0, 2), -1);
        Check.due("31: nobody", x.two(0, 3, 0), -1);
        Check.due("31: nobody", x.two(-1, -1, 0), -1);
        Check.due("31: what ahead of the same", x.two(0, 0, 2), -5);
        Check.due("31: what", x.two(0, 1, -1), -5);
        Check.due("31: the same", x.two(1, 1, 1), -6);
        Check.due("31: the same", x.two(1, 1, 0), -6);
        Check.dueRefusals("31", x, 3, 0, 0, 0, 2, 2);
    }

    private static void goingHome() {
        ClothesRemember x = Check.told("person 0;person 0;garment 1 5;garment 6 3;garment 4 0",
            "habit 0 2 7 5;habit 0 1 7 4;habit 0 9 7 9;habit 1 3 8 1;habit 2 3 7 9;own 1 4 7");
        Check.due("32: at 2", x.alone(2), 1);
        Check.due("32: at 1", x.alone(1), 0);
        Check.due("32: at 3", x.alone(3), 2);
        Check.due("33: nobody's", x.home(0), -1);
        x.own(1, 9, 7);
        Check.due("33: where, and when first", x.home(0), 102);
        x.own(0, 2, 7);
        Check.due("33: to the first of several", x.home(0), 2);
        x.own(1, 3, 8);
        Check.due("33: gown", x.home(1), 103);
        x.own(0, 3, 7);
        Check.due("33: silk never goes", x.home(2), -1);
        x.wear(0, 0);
        Check.due("33: worn", x.home(0), -1);
        Check.due("32: worn", x.alone(2), 0);
        Check.due("33: nobody", x.home(3), -11);
        Check.due("33: nobody", x.home(-1), -11);
        Check.due("32: hour", x.alone(12), -6);
        Check.due("32: hour", x.alone(-1), -6);
        Check.dueRefusals("32 and 33", x, 2, 0, 0, 0, 0, 2);
    }

    private static void cures() {
        ClothesRemember x = Check.told("person 0;garment 0 0;garment 0 0;garment 0 0;own 0 0 1;own 0 1 2",
            "habit 0 0 5 6;habit 1 0 1 7;habit 2 1 3 4;wear 0 0;wear 1 0;wear 2 0");
        Check.due("34: at hour 0 by a garment", x.cure(0, 0), 4);
        Check.due("34: one alone is taken off", x.cure(0, 1), 4);
        x.habit(1, 0, 1, 5);
        Check.due("34: above 6", x.cure(0, 0), 6);
        Check.due("34: two are taken off", x.cure(0, 1), 5);
        x.will(0, 6);
        Check.due("34: by his will all stay", x.cure(0, 1), 0);
        Check.due("34: the least is told still", x.cure(0, 0), 6);
        x.garment(4, 0);
        x.habit(3, 5, 1, 5);
        x.wear(3, 0);
        Check.due("34: pulls 10", x.cure(0, 0), -1);
        Check.due("34: that is taken off", x.cure(0, 1), 8);
        ClothesRemember y = Check.told("person 0;garment 3 0;garment 3 0;garment 3 0;garment 0 0;own 0 0 1",
            "habit 0 0 2 1;habit 1 0 2 1;habit 2 0 2 1;habit 3 0 1 4;wear 0 0;wear 1 0;wear 3 0");
        Check.due("34: uniforms off still count", y.cure(0, 1), 3);
        y.habit(3, 0, 1, 5);
        Check.due("34: a good one may stay", y.cure(0, 1), 0);
        ClothesRemember z = Check.told("person 3;person 0;garment 0 0;garment 0 0;own 0 0 1;own 1 0 1",
            "habit 0 0 2 5;habit 1 0 1 6;wear 0 0;wear 1 0");
        Check.due("34: nothing to be taken off", z.cure(1, 1), 0);
        Check.due("34: nobody dressed", z.cure(1, 0), 0);
        z.habit(1, 0, 1, 5);
        Check.due("34: the second of both alike", z.cure(0, 1), 1);
        z.habit(0, 0, 2, 4);
        z.habit(0, 1, 3, 4);
        z.habit(1, 1, 4, 5);
        Check.due("34: both", z.cure(0, 1), 3);
        Check.due("34: nobody first", z.cure(2, 2), -11);
        Check.due("34: nobody", z.cure(-1, 0), -11);
        Check.due("34: what", z.cure(0, 2), -15);
        Check.due("34: what", z.cure(0, -1), -15);
        Check.dueRefusals("34", z, 2, 0, 0, 0, 2);
    }

    private static void judging() {
        ClothesRemember x = Check.told("person 0;person 9;garment 0 0;habit 0 2 4 5;wear 0 0;own 1 2 5;own 0 11 9");
        Check.fill(x, 0, 3, 0, 0, 4, 0, 0, 0, 0, 0, 0, 0, 0, 9, 7);
        Check.due("35: none wrong", x.judge(0, 0), -1);
        Check.due("35: of another", x.judge(0, 1), 2);
        x.set(0, 11, (1L << 32) + 9);
        Check.due("35: lowest 32 bits", x.judge(0, 0), -1);
        x.set(0, 11, 8);
        Check.due("35: he wouldn't", x.judge(0, 0), 11);
        x.set(0, 5, 10);
        Check.due("35: no deed", x.judge(0, 0), 5);
        x.set(0, 4, -1);
        Check.due("35: -1 is no deed", x.judge(0, 0), 4);
        x.set(0, 0, 1);
        Check.due("35: the first", x.judge(0, 0), 0);
        x.row(1, 0, 11);
        x.show(2, 0);
        Check.due("35: nobody ahead of a garment", x.judge(2, 2), -11);
        Check.due("35: nobody", x.judge(0, -1), -11);
        Check.due("35: no shelf", x.judge(-1, 0), -11);
        Check.due("35: a garment", x.judge(2, 0), -12);
        Check.due("35: nothing", x.judge(3, 0), -13);
        Check.due("35: fewer", x.judge(1, 0), -15);
        Check.dueRefusals("35", x, 3, 1, 1, 0, 1);
    }

    private static void teaching() {
        int[] behind = {9, 9, 5, 5, -1, 3, -1};
        for (int kind = 0; kind <= 6; kind++) {
            ClothesRemember x = Check.told("garment " + kind + " 0;habit 0 0 4 9;habit 0 1 5 1");
            Check.fill(x, 0, 2, 4, 5, 0, 0, 0, 0, 0, 0, 0, 0, 0, 0, 3);
            Check.due("36: has all", x.taught(0, 0), 0);
            x.set(0, 11, 2);
            Check.due("36: from nothing", x.taught(0, 0), 1);
            x.set(0, 1, 0);
            Check.due("36: 0 aside", x.taught(0, 0), 1);
            x.set(0, 0, 3);
            Check.due("36: another habit, kind " + kind, x.taught(0, 0), behind[kind]);
            Check.due("36: nothing is changed", x.garmentOf(0, 30), 9);
        }
        ClothesRemember x = Check.told("person 0;garment 2 0;wear 0 0");
        Check.fill(x, 0, 3, 1, 2, 3, 4, 5, 6, 7, 8, 9, 1, 2, (9L << 33) + 3);
        Check.due("36: lowest 32 bits, all hours", x.taught(0, 0), 1);
        x.row(1, 0, 11);
        x.show(2, 0);
        Check.fill(x, 3, 0, 0, 0, 0, 0, 0, 0, 0, 0, 0, 0, 0, 10, 10);
        Check.due("36: nobody ahead of a garment", x.taught(2, 1), -11);
        Check.due("36: no shelf", x.taught(8, 0), -11);
        Check.due("36: nobody", x.taught(0, -1), -11);
        Check.due("36: a garment", x.taught(2, 0), -12);
        Check.due("36: nothing", x.taught(4, 0), -13);
        Check.due("36: fewer", x.taught(1, 0), -15);
        Check.due("36: no deed", x.taught(3, 0), -16);
        x.set(3, 11, -1);
        Check.due("36: -1 is no deed", x.taught(3, 0), -16);
        x.set(3, 11, 0);
        x.set(3, 0, 10);
        Check.due("36: the first is no deed", x.taught(3, 0), -16);
        x.set(3, 0, 0);
        Check.due("36: beyond 12", x.taught(3, 0), 0);
        Check.dueRefusals("36", x, 3, 1, 1, 0, 1, 3);
    }

    private static void likenessesOf(int number) {
        for (int g = 0; g < Worlds.garments(Worlds.world(number)); g += 3) {
            ClothesRemember x = Worlds.world(number);
            int best = -1;
            int most = 0;
            for (int p = 0; p < Worlds.people(x); p++) {
                int due = 0;
                for (int hour = 0; hour < HOURS; hour++) {
                    int deed = x.personOf(p, 10 + hour);
                    due += deed != 0 && deed == x.garmentOf(g, 10 + hour) ? 1 : 0;
                }
                Check.due("24: world " + number, x.like(g, p), due);
                if (due > most) {
                    most = due;
                    best = p;
                }
            }
            Check.due("25: world " + number, x.whose(g), best);
        }
    }

    /** A day of one, told just as it is done, and with one deed spoilt. */
    private static void deedsToldOf(int number) {
        ClothesRemember x = Worlds.world(number);
        for (int p = 0; p < Worlds.people(x); p++) {
            x.row(0, 0, 12);
            for (int hour = 0; hour < HOURS; hour++) {
                x.set(0, hour, x.does(p, 0, hour));
            }
            Check.due("26: world " + number, x.fits(0) >> p & 1, 1);
            Check.due("35: world " + number, x.judge(0, p), -1);
            int spoilt = (number + p) % HOURS;
            x.set(0, spoilt, x.element(0, spoilt) + 1);
            Check.due("26: world " + number, x.fits(0) >> p & 1, 0);
            Check.due("35: world " + number, x.judge(0, p), spoilt);
        }
    }

    private static void watchOf(int number) {
        ClothesRemember x = Worlds.world(number);
        int best = 0;
        int most = 0;
        for (int hour = 0; hour < HOURS; hour++) {
            java.util.TreeSet<Integer> deeds = new java.util.TreeSet<>();
            for (int p = 0; p < Worlds.people(x); p++) {
                deeds.add(x.does(p, 0, hour));
            }
            deeds.remove(0);
            if (deeds.size() > most) {
                most = deeds.size();
                best = hour;
            }
        }
        Check.due("27: world " + number, x.watch(), Worlds.people(x) == 0 ? -5 : best);
    }

    /** By trying all ways with two garments on at most five people. */
    private static void dressingTried(int number) {
        ClothesRemember asked = Worlds.world(number);
        int people = Worlds.people(asked);
        if (people > 5 || Worlds.garments(asked) < 2) {
            return;
        }
        java.util.Random random = new java.util.Random(number);
        int[] told = new int[HOURS * people];
        asked.row(0, 0, told.length);
        for (int i = 0; i < told.length; i++) {
            told[i] = random.nextInt(8) - 1;
            asked.set(0, i, told[i]);
        }
        int most = -1;
        int[] best = {-1, -1};
        for (int first = -1; first < people; first++) {
            for (int second = -1; second < people; second++) {
                ClothesRemember x = Worlds.world(number);
                x.wear(0, first);
                x.wear(1, second);
                int done = 0;
                for (int i = 0; i < told.length; i++) {
                    done += x.does(i / HOURS, 0, i % HOURS) == told[i] ? 1 : 0;
                }
                if (done > most) {
                    most = done;
                    best = new int[] {first, second};
                }
            }
        }
        Check.due("28: world " + number, asked.dressed(0, 2, -1), most);
        Check.due("28: the first in world " + number, asked.dressed(0, 2, 0), best[0] + 1);
        Check.due("28: the second in world " + number, asked.dressed(0, 2, 1), best[1] + 1);
        if (Worlds.garments(asked) >= 4) {
            Check.due("28: four are as good as two in world " + number,
                asked.dressed(0, 4, -1) >= most ? 1 : 0, 1);
            dueAsTold(number, told, new int[] {asked.dressed(0, 4, 0), asked.dressed(0, 4, 1),
                asked.dressed(0, 4, 2), asked.dressed(0, 4, 3)}, asked.dressed(0, 4, -1));
        }
    }

    private static void dueAsTold(int number, int[] told, int[] wearers, int due) {
        ClothesRemember x = Worlds.world(number);
        for (int g = 0; g < wearers.length; g++) {
            x.wear(g, wearers[g] - 1);
        }
        int done = 0;
        for (int i = 0; i < told.length; i++) {
            done += x.does(i / HOURS, 0, i % HOURS) == told[i] ? 1 : 0;
        }
        Check.due("28: four dressed so in world " + number, done, due);
    }

    private static void washingTried(int number) {
        ClothesRemember asked = Worlds.world(number);
        ClothesRemember x = Worlds.world(number);
        for (int g = 0; g < Worlds.garments(x); g += 4) {
            int hour = (number + g) % HOURS;
            int times = -1;
            for (int w = 0; w <= 9; w++) {
                int habits = 0;
                for (int h = 0; h < HOURS; h++) {
                    habits += x.garmentOf(g, 10 + h) != 0 ? 1 : 0;
                }
                Check.due("30: world " + number, asked.kept(g, w), habits);
                if (times == -1 && x.garmentOf(g, 10 + hour) == 0) {
                    times = w;
                }
                x.wash(g);
            }
            Check.due("29: world " + number, asked.washed(g, hour), times);
        }
    }

    private static void pairsOf(int number) {
        ClothesRemember x = Worlds.world(number);
        for (int g = 1; g < Worlds.garments(x); g++) {
            int strife = 0;
            int patched = 0;
            for (int hour = 0; hour < HOURS; hour++) {
                int one = x.garmentOf(g, 10 + hour);
                int other = x.garmentOf(g - 1, 10 + hour);
                strife += one * other != 0 && one != other ? 1 : 0;
                patched += x.garmentOf(g, 50 + hour) > x.garmentOf(g - 1, 50 + hour) ? 1 : 0;
            }
            Check.due("31: line in world " + number, x.two(g, g - 1, 0), strife);
            Check.due("31: patch in world " + number, x.two(g, g - 1, 1), patched);
        }
    }

    private static void homesOf(int number) {
        ClothesRemember x = Worlds.world(number);
        int[] first = new int[8];
        java.util.Arrays.fill(first, -1);
        for (int hour = HOURS - 1; hour >= 0; hour--) {
            int going = 0;
            for (int g = 0; g < Worlds.garments(x); g++) {
                int kind = x.garmentOf(g, 0);
                if (x.garmentOf(g, 2) == 0 && (kind == 1 || kind == 3 || kind == 6) && x.garmentOf(g, 50 + hour) >= 10) {
                    going |= 1 << g;
                    first[g] = hour;
                }
            }
            Check.due("32: world " + number, x.alone(hour), going);
        }
        for (int g = 0; g < Worlds.garments(x); g++) {
            int whose = x.whose(g);
            Check.due("33: world " + number, x.home(g), whose == -1 || first[g] == -1 ? -1 : 100 * whose + first[g]);
        }
    }

    private static void curesTried(int number) {
        ClothesRemember x = Worlds.world(number);
        for (int p = 0; p < Worlds.people(x); p++) {
            int asked = x.cure(p, 0);
            int due = -1;
            for (int v = 9; v >= 0; v--) {
                x.will(p, v);
                due = x.wins(p) == 0 ? v : due;
            }
            Check.due("34: cure in world " + number, asked, due);
        }
    }

    private static void stripsTried(int number) {
        ClothesRemember asked = Worlds.world(number);
        for (int p = 0; p < Worlds.people(asked); p++) {
            int worn = asked.personOf(p, 1);
            int due = -1;
            for (int off = 255; off >= 0; off--) {
                if ((off & ~worn) == 0) {
                    ClothesRemember x = Worlds.world(number);
                    for (int g = 0; g < 8; g++) {
                        if ((off >> g & 1) != 0) {
                            x.wear(g, -1);
                        }
                    }
                    boolean fewer = due == -1 || Integer.bitCount(off) <= Integer.bitCount(due);
                    due = fewer && x.wins(p) == 0 ? off : due;
                }
            }
            Check.due("34: strip in world " + number, asked.cure(p, 1), due);
        }
    }
}
