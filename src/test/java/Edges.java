import java.lang.reflect.Method;
import java.lang.reflect.Modifier;
import java.util.Arrays;
import java.util.Comparator;

/** What the tests of boundary cases share: worlds, refusals looked at from all sides, calls that change nothing. */
final class Edges {
    static final int MIN = Integer.MIN_VALUE;
    static final int MAX = Integer.MAX_VALUE;
    static final int HOURS = 12;
    private static final String MARK = "promise";

    private Edges() {
    }

    interface World {
        ClothesRemember made();
    }

    interface Call {
        long on(ClothesRemember x);
    }

    /** A call with one number left open. */
    interface OpenCall {
        long on(ClothesRemember x, int v);
    }

    /** Runs every test of a class, so that none is forgotten: all methods whose names begin with promise. */
    static void run(Class<?> tests) throws ReflectiveOperationException {
        Method[] all = tests.getDeclaredMethods();
        Arrays.sort(all, Comparator.comparing(Method::getName));
        int ran = 0;
        for (Method method : all) {
            if (method.getName().startsWith(MARK) && Modifier.isStatic(method.getModifiers())) {
                Check.begin(method.getName());
                method.setAccessible(true);
                method.invoke(null);
                ran++;
            }
        }
        Check.begin("");
        System.out.println(tests.getSimpleName() + ": " + ran + " tests");
        Check.end(tests.getSimpleName());
    }

    /** The numbers next to a range on both sides, and those farthest off. */
    static int[] outside(int least, int most) {
        return new int[] {least - 1, most + 1, MIN, MAX};
    }

    /** The answer is due, the refusal is counted once as its number, and nothing else has changed. */
    static void refused(String call, World world, long answer, Call made) {
        ClothesRemember x = world.made();
        ClothesRemember same = world.made();
        Check.due(call, made.on(x), answer);
        int reason = (int) (answer < -10 ? answer + 10 : answer);
        for (int refusal = -1; refusal >= -7; refusal--) {
            Check.due(call + ": refusals " + refusal, x.status(10 - refusal),
                same.status(10 - refusal) + (refusal == reason ? 1 : 0));
        }
        dueAlike(call + " changes nothing", x, same);
        ClothesRemember restored = world.made();
        ClothesRemember sameRestored = world.made();
        made.on(restored);
        restored.restore();
        sameRestored.restore();
        dueAlike(call + " changes no image", restored, sameRestored);
    }

    /** Refused with each number next to a range; ? in the call's name stands for it. */
    static void refusedOutside(String call, World world, int least, int most, long answer, OpenCall made) {
        for (int v : outside(least, most)) {
            refused(call.replace("?", String.valueOf(v)), world, answer, x -> made.on(x, v));
        }
    }

    /** Answered, neither refused nor with anything changed. */
    static void asked(String call, World world, long answer, Call made) {
        ClothesRemember x = world.made();
        ClothesRemember same = world.made();
        Check.due(call, made.on(x), answer);
        for (int refusal = 11; refusal <= 17; refusal++) {
            Check.due(call + ": status " + refusal, x.status(refusal), same.status(refusal));
        }
        dueAlike(call + " changes nothing", x, same);
    }

    static void askedOutside(String call, World world, int least, int most, long answer, OpenCall made) {
        for (int v : outside(least, most)) {
            asked(call.replace("?", String.valueOf(v)), world, answer, x -> made.on(x, v));
        }
    }

    static void dueAlike(String what, ClothesRemember one, ClothesRemember other) {
        String got = all(one);
        String want = all(other);
        Check.due(what + ", is " + got + ", due is " + want, got.equals(want) ? 1 : 0, 1);
    }

    /** All that can be seen of an object but its image and its refusals. */
    static String all(ClothesRemember x) {
        StringBuilder all = new StringBuilder(Worlds.all(x));
        for (int s = 0; s < 8; s++) {
            int held = x.holds(s);
            all.append(" shelf ").append(held).append(':');
            int size = held < 100 ? 0 : sizeOf(x, s);
            for (int i = 0; i < size; i++) {
                all.append(x.element(s, i)).append(',');
            }
        }
        int ran = x.status(6);
        all.append(" fault ").append(x.fault()).append(" bodies ").append(ran);
        for (int i = 0; i < Math.min(20, ran); i++) {
            all.append(' ').append(x.trace(i));
        }
        return all.toString();
    }

    /** By halves: copying none from a place is refused just behind the end. */
    private static int sizeOf(ClothesRemember x, int s) {
        int least = 0;
        int most = 160;
        while (least < most) {
            int middle = (least + most + 1) / 2;
            if (x.copy(s, s, middle, middle, 0) == 1) {
                least = middle;
            } else {
                most = middle - 1;
            }
        }
        return least;
    }

    /** Nothing at all. */
    static ClothesRemember empty() {
        return new ClothesRemember();
    }

    /**
     * Two people, four garments (one of them behind the image), and shelves: 0 a day of bytes, 1 garment 1,
     * 2 nothing, 3 a row one element too short for a day, 4 longs, 5 garment 3, 6 a text with a fault, 7 an empty row.
     */
    static ClothesRemember furnished() {
        ClothesRemember x = new ClothesRemember();
        x.person(5);
        x.person(9);
        x.garment(1, 3);
        x.garment(5, 0);
        x.garment(4, 2);
        x.own(0, 0, 1);
        x.own(1, 11, 9);
        x.habit(0, 0, 2, 9);
        x.habit(1, 5, 3, 4);
        x.habit(2, 11, 4, 1);
        x.wear(0, 0);
        x.wear(2, 1);
        x.seed(77);
        x.days(2);
        x.image();
        x.garment(6, 4);
        x.habit(3, 4, 5, 5);
        x.own(0, 3, 7);
        x.will(1, 3);
        x.days(1);
        x.seed(5);
        Check.fill(x, 0, 0, 2, -1, 0, 7, 0, 0, 0, 0, 0, 0, 0, 3);
        x.show(1, 1);
        Check.fill(x, 3, 1, 1, 2, 3, 4, 5, 6, 7, 8, 9, 1, 2);
        Check.fill(x, 4, 3, Long.MIN_VALUE, 5, -6);
        x.show(5, 3);
        Check.write(x, 6, "day;x");
        x.wardrobe(6);
        x.row(7, 2, 0);
        x.act(3, 2, 1);
        return x;
    }

    /** Six people, eight garments, all kinds, each with a habit; shelf 0 is a row, 1 the last garment, 2 nothing. */
    static ClothesRemember full() {
        ClothesRemember x = new ClothesRemember();
        for (int p = 0; p < 6; p++) {
            x.person(9 - p);
            x.own(p, p + 6, p + 1);
        }
        for (int g = 0; g < 8; g++) {
            x.garment(g == 7 ? 3 : g, 9 - g);
            x.habit(g, g + 4, g + 1, 9 - g);
            x.wear(g, g % 7 - 1);
        }
        x.row(0, 0, 12);
        x.show(1, 7);
        x.image();
        x.seed(9);
        x.wear(7, 2);
        return x;
    }

    /** No people, eight garments, the shelves as in full(). */
    static ClothesRemember garmentsAlone() {
        ClothesRemember x = new ClothesRemember();
        for (int g = 0; g < 8; g++) {
            x.garment(g % 7, 9);
            x.habit(g, 0, 3, 9);
        }
        x.row(0, 0, 12);
        x.show(1, 7);
        return x;
    }

    /** Six people, no garments. */
    static ClothesRemember peopleAlone() {
        ClothesRemember x = new ClothesRemember();
        for (int p = 0; p < 6; p++) {
            x.person(p);
            x.own(p, p, p + 1);
        }
        x.row(0, 0, 72);
        return x;
    }
}
