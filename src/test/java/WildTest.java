import java.util.Random;

/** No call throws, for any arguments in any state; and the same calls give the same answers. */
public final class WildTest {
    private static final int[] EDGES = {Integer.MIN_VALUE, Integer.MAX_VALUE, -2, -1, 0, 1, 2, 3, 4, 5, 6, 7, 8, 9, 10,
        11, 12, 13, 59, 60, 61, 159, 160, 161};
    private static final String LETTERS = "persongarmentownhabitwearoffwashday 0123456789;;    ";
    // an object is used for 512 calls; a world takes some 200 of them, a text at most 15
    private static final int CALLS = 512;
    private static final int CALLS_OF_A_WORLD = 210;
    private static final int CALLS_OF_A_TEXT = 15;
    private static final int KINDS_OF_CALLS = 44;

    public static void main(String[] args) {
        for (int number = 0; number < 800; number++) {
            long once = runOf(number);
            Check.due("run " + number + " again", runOf(number), once);
        }
        Check.end("WildTest");
    }

    private static long runOf(int number) {
        Random random = new Random(number);
        ClothesRemember x = number % 2 == 0 ? new ClothesRemember() : Worlds.world(number);
        long answers = 0;
        int left = number % 2 == 0 ? CALLS : CALLS - CALLS_OF_A_WORLD;
        while (left > 0) {
            int call = random.nextInt(left < CALLS_OF_A_TEXT ? KINDS_OF_CALLS - 1 : KINDS_OF_CALLS);
            answers = answers * 31 + any(x, random, call);
            left -= call == KINDS_OF_CALLS - 1 ? CALLS_OF_A_TEXT : 1;
        }
        return answers;
    }

    private static int number(Random random) {
        return random.nextInt(3) > 0 ? random.nextInt(13) - 1 : EDGES[random.nextInt(EDGES.length)];
    }

    private static long any(ClothesRemember x, Random random, int call) {
        int a = number(random);
        int b = number(random);
        int c = number(random);
        int d = number(random);
        switch (call) {
            case 0: return x.row(a, b, c);
            case 1: return x.set(a, b, c);
            case 2: return x.copy(a, b, c, d, number(random));
            case 3: return x.element(a, b);
            case 4: return x.show(a, b);
            case 5: return x.holds(a);
            case 6: return x.says(a, b);
            case 7: return x.person(a);
            case 8: return x.garment(a, b);
            case 9: return x.own(a, b, c);
            case 10: return x.habit(a, b, c, d);
            case 11: return x.wear(a, b);
            case 12: return x.will(a, b);
            case 13: return x.garmentOf(a, b);
            case 14: return x.personOf(a, b);
            case 15: return x.wardrobe(a);
            case 16: return x.fault();
            case 17: return x.does(a, b, c);
            case 18: return x.goes(a, b, c);
            case 19: return x.behind(a, b, c, d);
            case 20: return x.settled();
            case 21: return x.wins(a);
            default: return anyOther(x, random, call, new int[] {a, b, c, d});
        }
    }

    private static long anyOther(ClothesRemember x, Random random, int call, int[] of) {
        switch (call) {
            case 22: return x.like(of[0], of[1]);
            case 23: return x.whose(of[0]);
            case 24: return x.fits(of[0]);
            case 25: return x.watch();
            case 26: return x.dressed(of[0], of[1], of[2]);
            case 27: return x.washed(of[0], of[1]);
            case 28: return x.kept(of[0], of[1]);
            case 29: return x.two(of[0], of[1], of[2]);
            case 30: return x.alone(of[0]);
            case 31: return x.home(of[0]);
            case 32: return x.cure(of[0], of[1]);
            case 33: return x.judge(of[0], of[1]);
            case 34: return x.taught(of[0], of[1]);
            case 35: return x.wash(of[0]);
            case 36: return x.days(of[0]);
            case 37: return x.years(of[0]);
            case 38: return x.seed(of[0]);
            case 39: return x.act(of[0], of[1], of[2]);
            case 40: return x.trace(of[0]);
            case 41: return x.image();
            case 42: return x.restore();
            default: return x.status(of[0]) + textOf(x, random);
        }
    }

    private static long textOf(ClothesRemember x, Random random) {
        int length = random.nextInt(12);
        x.row(0, 0, length);
        for (int i = 0; i < length; i++) {
            x.set(0, i, LETTERS.charAt(random.nextInt(LETTERS.length())));
        }
        return x.wardrobe(0);
    }
}
