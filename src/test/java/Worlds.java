import java.util.Random;

/** Objects with people and garments by a number: the same number, the same object. */
final class Worlds {
    static final int HOURS = 12;
    static final int HOW_MANY = 60;

    private Worlds() {
    }

    /** Some 200 calls at most, so that a test has 300 more. */
    static ClothesRemember world(int number) {
        Random random = new Random(number * 7919L + 1);
        ClothesRemember x = new ClothesRemember();
        int people = random.nextInt(7);
        int garments = random.nextInt(9);
        int deeds = 1 + random.nextInt(9);
        for (int p = 0; p < people; p++) {
            x.person(random.nextInt(10));
            for (int hour = 0; hour < HOURS; hour++) {
                x.own(p, hour, random.nextInt(deeds + 1));
            }
        }
        for (int g = 0; g < garments; g++) {
            x.garment(random.nextInt(4) == 0 ? 3 : random.nextInt(7), random.nextInt(10));
            for (int hour = 0; hour < HOURS; hour++) {
                if (random.nextInt(3) > 0) {
                    x.habit(g, hour, 1 + random.nextInt(deeds), 1 + random.nextInt(9));
                }
            }
            x.wear(g, random.nextInt(people + 1) - 1);
        }
        return x;
    }

    static int people(ClothesRemember x) {
        return x.status(1);
    }

    static int garments(ClothesRemember x) {
        return x.status(0);
    }

    /** Habits and how firm they are, as one text. */
    static String learnt(ClothesRemember x) {
        StringBuilder all = new StringBuilder();
        int garments = garments(x);
        for (int g = 0; g < garments; g++) {
            for (int hour = 0; hour < HOURS; hour++) {
                all.append(x.garmentOf(g, 10 + hour)).append('/').append(x.garmentOf(g, 30 + hour)).append(' ');
            }
        }
        return all.toString();
    }

    /** All that can be told of people and garments. */
    static String all(ClothesRemember x) {
        return learnt(x) + others(x);
    }

    /** All but what is learnt. */
    static String others(ClothesRemember x) {
        StringBuilder all = new StringBuilder();
        int garments = garments(x);
        for (int g = 0; g < garments; g++) {
            all.append(x.garmentOf(g, 0)).append(x.garmentOf(g, 1)).append(x.garmentOf(g, 2)).append(' ');
        }
        int people = people(x);
        for (int p = 0; p < people; p++) {
            all.append(x.personOf(p, 0)).append(' ');
            for (int hour = 0; hour < HOURS; hour++) {
                all.append(x.personOf(p, 10 + hour));
            }
        }
        return all.append(' ').append(x.status(4)).append(' ').append(x.status(5)).toString();
    }
}
