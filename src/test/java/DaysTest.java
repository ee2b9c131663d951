/** Promises 19 to 23 and 37 to 40: hours, learning, days behind and in truth, washes, years by draws. */
public final class DaysTest {
    public static void main(String[] args) {
        whoseWillWins();
        stepsOfLearning();
        onceAndForAll();
        allAtOnce();
        goingAlone();
        refusals();
        for (int number = 0; number < Worlds.HOW_MANY; number++) {
            askedAndLived(number);
            settledAndLived(number);
            deedsCounted(number);
            yearsByHand(number);
        }
        settledLate();
        washes();
        seeds();
        Check.end("DaysTest");
    }

    private static void whoseWillWins() {
        ClothesRemember x = Check.told("person 5;garment 0 0;garment 0 0;garment 2 0;own 0 0 3",
            "habit 0 0 1 6;habit 1 0 2 6;habit 2 0 4 5;wear 0 0;wear 1 0;wear 2 0");
        Check.due("19: of both alike the first", x.does(0, 0, 0), 1);
        Check.due("23: one hour", x.wins(0), 1);
        x.will(0, 6);
        Check.due("19: not above his will", x.does(0, 0, 0), 3);
        Check.due("23: none", x.wins(0), 0);
        x.will(0, 5);
        x.habit(1, 0, 2, 7);
        Check.due("19: which pulls most", x.does(0, 0, 0), 2);
        x.wear(1, -1);
        x.wear(0, -1);
        Check.due("19: what he wears alone", x.does(0, 0, 0), 3);
        x.own(0, 0, 0);
        x.wear(1, 0);
        Check.due("23: an own of 0 counts", x.wins(0), 1);
        x.will(0, 0);
        ClothesRemember y = Check.told("person 0;garment 5 0;habit 0 0 1 1;wear 0 0;own 0 0 2");
        Check.due("19: a pull of 0 is not above a will of 0", y.does(0, 0, 0), 2);
        Check.due("23: nobody", y.wins(1), -1);
        Check.due("23: nobody", y.wins(-1), -1);
        Check.dueRefusals("23", y, 2);
    }

    /** Firm after n days of a habit 2 firm 9 whose wearer does 1: then habit 1, and firm again. */
    private static void stepsOfLearning() {
        int[] steps = {1, 1, 2, 2, 0, 3, 0};
        for (int kind = 0; kind <= 6; kind++) {
            int habit = 2;
            int firm = 9;
            for (int n = 0; n <= 20; n++) {
                ClothesRemember x = stubborn(kind, n);
                Check.due("21: habit of kind " + kind + " behind " + n, x.garmentOf(0, 10), habit);
                Check.due("21: firm of kind " + kind + " behind " + n, x.garmentOf(0, 30), firm);
                if (steps[kind] != 0 && habit == 1) {
                    firm = Math.min(9, firm + steps[kind]);
                } else if (steps[kind] != 0) {
                    firm -= steps[kind];
                    if (firm <= 0) {
                        habit = 1;
                        firm = 1;
                    }
                }
            }
        }
    }

    /** Two garments 1 of an older one's pull keep the person at deed 1. */
    private static ClothesRemember stubborn(int kind, int days) {
        ClothesRemember x = Check.told("person 9;garment " + kind + " 0;garment 6 0;habit 1 0 1 9;habit 0 0 2 9;"
            + "wear 0 0;wear 1 0");
        if (days > 0) {
            x.days(days);
        }
        return x;
    }

    private static void onceAndForAll() {
        for (int kind = 0; kind <= 6; kind++) {
            ClothesRemember x = Check.told("person 9;garment " + kind + " 0;own 0 0 3;wear 0 0");
            int first = kind == 4 || kind == 6 ? 9 : 1;
            Check.due("21: learnt of kind " + kind, x.behind(0, 1, 0, 0), 3);
            Check.due("21: firm of kind " + kind, x.behind(0, 1, 0, 1), first);
            Check.due("21: no deed, nothing learnt", x.behind(0, 60, 1, 0), 0);
            Check.due("21: nothing in truth", x.status(2), 0);
            x.wear(0, -1);
            Check.due("21: nobody's learns nothing", x.behind(0, 60, 0, 0), 0);
            Check.due("22: nobody's learns nothing", x.settled(), 0);
        }
        ClothesRemember x = Check.told("person 0;garment 0 0;habit 0 0 1 3;wear 0 0");
        Check.due("21: a habit makes itself firm", x.behind(0, 6, 0, 1), 9);
        Check.due("22: then it is settled", x.settled(), 6);
        x.will(0, 3);
        Check.due("21: nothing done, nothing learnt", x.behind(0, 6, 0, 1), 3);
        Check.due("22: settled at once", x.settled(), 0);
    }

    /** What the first garment learns is not seen by the second in the same hour. */
    private static void allAtOnce() {
        ClothesRemember x = Check.told("person 4;person 4;garment 3 1;garment 3 1;own 0 0 5;own 1 0 6",
            "habit 0 0 5 1;habit 1 0 5 2;wear 0 0;wear 1 1");
        Check.due("19: two uniforms pull 5 at the second", x.does(1, 0, 0), 5);
        Check.due("21: firm", x.behind(1, 1, 0, 1), 4);
        ClothesRemember y = Check.told("person 5;person 4;garment 3 0;garment 3 0;own 0 0 7;own 1 0 6",
            "habit 0 0 5 1;habit 1 0 5 3;wear 0 0;wear 1 1");
        Check.due("21: the first loses its habit", y.behind(0, 1, 0, 0), 7);
        Check.due("21: the second did it still", y.behind(1, 1, 0, 1), 5);
    }

    private static void goingAlone() {
        ClothesRemember x = Check.told("person 0;garment 1 3;habit 0 0 4 7;habit 0 1 4 6;garment 6 2;habit 1 1 5 5;"
            + "habit 1 2 5 1;habit 1 3 5 4;garment 4 0", "habit 2 0 6 9;garment 2 9;habit 3 0 6 9");
        Check.due("20: coat pulls 10", x.goes(0, 0, 0), 4);
        Check.due("20: coat pulls 9", x.goes(0, 0, 1), 0);
        Check.due("20: no habit", x.goes(0, 0, 2), 0);
        Check.due("20: gown pulls 10", x.goes(1, 0, 1), 5);
        Check.due("20: gown at its hour", x.goes(1, 0, 2), 5);
        Check.due("20: gown pulls 8", x.goes(1, 0, 3), 0);
        Check.due("20: silk never", x.goes(2, 0, 0), 0);
        Check.due("20: shirt never", x.goes(3, 0, 0), 0);
        x.wear(0, 0);
        Check.due("20: not if it is worn", x.goes(0, 0, 0), 0);
        ClothesRemember y = Check.told("person 0;garment 3 1;garment 3 5;habit 0 0 2 7;habit 1 0 3 1;own 0 0 2;wear 1 0");
        y.will(0, 9);
        Check.due("20: with one uniform", y.goes(0, 0, 0), 0);
        Check.due("20: when the other has learnt", y.goes(0, 1, 0), 2);
    }

    private static void refusals() {
        ClothesRemember x = Check.told("person 0;garment 0 0");
        Check.due("19: nobody first", x.does(1, -1, -1), -1);
        Check.due("19: nobody", x.does(-1, 0, 0), -1);
        Check.due("19: days", x.does(0, -1, 0), -6);
        Check.due("19: days", x.does(0, 61, 0), -6);
        Check.due("19: hour", x.does(0, 0, -1), -6);
        Check.due("19: hour", x.does(0, 60, 12), -6);
        Check.due("20: nobody first", x.goes(1, -1, -1), -1);
        Check.due("20: days", x.goes(0, -1, 0), -6);
        Check.due("20: days", x.goes(0, 61, 0), -6);
        Check.due("20: hour", x.goes(0, 0, -1), -6);
        Check.due("20: hour", x.goes(0, 60, 12), -6);
        Check.due("21: nobody first", x.behind(1, -1, -1, 2), -1);
        Check.due("21: what ahead of days", x.behind(0, 61, 12, 2), -5);
        Check.due("21: what", x.behind(0, 0, 0, -1), -5);
        Check.due("21: days", x.behind(0, 61, 0, 0), -6);
        Check.due("21: days", x.behind(0, -1, 0, 0), -6);
        Check.due("21: hour", x.behind(0, 0, 12, 1), -6);
        Check.due("21: hour", x.behind(0, 0, -1, 1), -6);
        Check.due("37: nobody", x.wash(1), -1);
        Check.due("37: nobody", x.wash(-1), -1);
        Check.due("38: days", x.days(0), -6);
        Check.due("38: days", x.days(-1), -6);
        Check.due("38: days", x.days(61), -6);
        Check.due("39: years", x.years(0), -6);
        Check.due("39: years", x.years(61), -6);
        Check.due("39: no garments first", new ClothesRemember().years(0), -5);
        Check.due("38: none passed", x.status(4), 0);
        Check.due("39: no draw", x.status(5), 1);
        Check.dueRefusals("19 to 39", x, 6, 0, 0, 0, 2, 17);
    }

    private static void askedAndLived(int number) {
        int[] behind = {0, 1, 2, 5, 17, 60};
        for (int n : behind) {
            ClothesRemember x = Worlds.world(number);
            ClothesRemember y = Worlds.world(number);
            if (n > 0) {
                y.days(n);
            }
            for (int hour = number % 3; hour < Worlds.HOURS; hour += 3) {
                for (int p = 0; p < Worlds.people(x); p++) {
                    Check.due("19: world " + number, x.does(p, n, hour), y.does(p, 0, hour));
                }
                for (int g = 0; g < Worlds.garments(x); g++) {
                    Check.due("20: world " + number, x.goes(g, n, hour), y.goes(g, 0, hour));
                    Check.due("21: world " + number, x.behind(g, n, hour, 0), y.garmentOf(g, 10 + hour));
                    Check.due("21: world " + number, x.behind(g, n, hour, 1), y.garmentOf(g, 30 + hour));
                }
            }
            ClothesRemember z = Worlds.world(number);
            z.does(0, n, 0);
            z.goes(0, n, 1);
            z.behind(0, n, 2, 0);
            Check.due("19: nothing is changed", Worlds.learnt(z).equals(Worlds.learnt(Worlds.world(number))) ? 1 : 0, 1);
        }
    }

    private static void settledAndLived(int number) {
        int asked = Worlds.world(number).settled();
        int due = -1;
        String before = Worlds.learnt(Worlds.world(number));
        for (int n = 0; n <= 60 && due == -1; n++) {
            ClothesRemember x = Worlds.world(number);
            if (n > 0) {
                x.days(n);
            }
            x.days(1);
            String behind = Worlds.learnt(x);
            if (behind.equals(before)) {
                due = n;
            }
            before = behind;
        }
        Check.due("22: world " + number, asked, due);
    }

    private static void deedsCounted(int number) {
        ClothesRemember x = Worlds.world(number);
        int due = 0;
        for (int n = 0; n < 3; n++) {
            for (int p = 0; p < Worlds.people(x); p++) {
                for (int hour = 0; hour < Worlds.HOURS; hour++) {
                    due += x.does(p, n, hour) != 0 ? 1 : 0;
                }
            }
        }
        ClothesRemember y = Worlds.world(number);
        Check.due("38: world " + number, y.days(3), due);
        Check.due("38: days in truth", y.status(4), 3);
        int wins = 0;
        for (int hour = 0; hour < Worlds.HOURS && Worlds.people(x) > 0; hour++) {
            wins += x.does(0, 0, hour) != x.personOf(0, 10 + hour) ? 1 : 0;
        }
        Check.due("23: world " + number, x.wins(0), Worlds.people(x) > 0 ? wins : -1);
    }

    /** What years() does at once, by single calls. */
    private static void yearsByHand(int number) {
        ClothesRemember x = Worlds.world(number);
        ClothesRemember y = Worlds.world(number);
        if (Worlds.garments(x) == 0) {
            Check.due("39: no garments", x.years(3), -5);
            return;
        }
        int seed = number * 1000003;
        x.seed(seed);
        int habits = x.years(20);
        for (int year = 0; year < 20; year++) {
            seed = seed * 1103515245 + 12345;
            int garment = (seed >>> 16) % Worlds.garments(y);
            seed = seed * 1103515245 + 12345;
            int fate = (seed >>> 16) % 4;
            if (fate == 0) {
                y.wash(garment);
            } else if (fate == 1 || Worlds.people(y) == 0) {
                y.wear(garment, -1);
            } else {
                seed = seed * 1103515245 + 12345;
                y.wear(garment, (seed >>> 16) % Worlds.people(y));
            }
            y.days(1);
        }
        y.seed(seed);
        Check.due("39: world " + number, habits, y.status(2));
        Check.due("39: all that world " + number + " has learnt",
            Worlds.learnt(x).equals(Worlds.learnt(y)) ? 1 : 0, 1);
        for (int g = 0; g < Worlds.garments(x); g++) {
            Check.due("39: who wears " + g + " in world " + number, x.garmentOf(g, 2), y.garmentOf(g, 2));
        }
        Check.due("39: days of world " + number, x.status(4), y.status(4));
        Check.due("39: seed of world " + number, x.status(5), seed);
    }

    private static void settledLate() {
        ClothesRemember x = Check.told("person 0;garment 0 0;habit 0 0 1 1;wear 0 0");
        Check.due("22: behind 8 days", x.settled(), 8);
        x.own(0, 3, 2);
        x.habit(0, 3, 3, 9);
        x.will(0, 9);
        Check.due("22: unlearnt in 9 days, firm in 8 more", x.settled(), 17);
        Check.due("22: no people, no garments", new ClothesRemember().settled(), 0);
    }

    private static void washes() {
        int[] left = {6, 8, 4, 8, 9, 7, 0};
        for (int kind = 0; kind <= 6; kind++) {
            ClothesRemember x = Check.told("garment " + kind + " 0;habit 0 0 1 9;habit 0 11 2 1");
            Check.due("37: habits left of kind " + kind, x.wash(0), kind == 4 ? 2 : kind == 6 ? 0 : 1);
            Check.due("37: firm of kind " + kind, x.garmentOf(0, 30), left[kind]);
            Check.due("37: habit of kind " + kind, x.garmentOf(0, 10), left[kind] > 0 ? 1 : 0);
            Check.due("37: the weak habit of kind " + kind, x.garmentOf(0, 21), kind == 4 ? 2 : 0);
            Check.due("37: how firm it is", x.garmentOf(0, 41), kind == 4 ? 1 : 0);
        }
    }

    private static void seeds() {
        ClothesRemember x = Check.told("person 0;garment 0 0");
        Check.due("40: 1 at first", x.seed(Integer.MIN_VALUE), 1);
        Check.due("40: what it was", x.seed(-1), Integer.MIN_VALUE);
        Check.due("45: seed", x.status(5), -1);
        x.years(1);
        Check.due("39: no sign of the upper bits", x.status(4), 1);
        Check.dueRefusals("40", x);
    }
}
