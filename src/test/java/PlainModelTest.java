import java.lang.reflect.Method;
import java.util.ArrayList;
import java.util.Arrays;
import java.util.HashMap;
import java.util.List;
import java.util.Map;
import java.util.Random;

/** Drawn runs of calls, each answered by the class as by the document told a second time. */
public final class PlainModelTest {
    private static final int RUNS = 400;
    private static final int CALLS = 512;
    private static final long[] FAR = {Integer.MIN_VALUE, Integer.MAX_VALUE, -2, -1, 0, 1, 2, 9, 10, 11, 12, 60, 61, 160,
        161, 256, 65536};
    // by call: what its numbers are (s shelf, g garment, p person, h hour, d deed, n days, k kind, z sort,
    // l length, i place of an element, v what is put in, x anything, t what is told; capitals: NONE as well)
    private static final String[] FORMS = {
        "row s z l", "set s i v", "set s i v", "copy s s i i l", "element s i", "show s G", "holds s", "says s k",
        "person d", "garment k d", "own p h d", "own p h d", "habit g h d d", "habit g h d d", "wear g P", "wear g P",
        "will p d", "garmentOf g t", "personOf p t", "wardrobe s", "fault", "does p n h", "goes g n h",
        "behind g n h b", "settled", "wins p", "like g p", "whose g", "fits s", "watch", "dressed s f I",
        "washed g h", "kept g d", "two g g b", "alone h", "home g", "cure p b", "judge s p", "taught s g", "wash g",
        "days n", "years n", "seed x", "act g o x", "trace j", "image", "restore", "status u"};
    private static final String[] ITEMS = {
        "person d", "garment k d", "own p h d", "habit g h d d", "wear g p", "off g", "wash g", "day"};

    private static final Map<String, Method> FACE = new HashMap<>();

    private final Random random;
    private final ClothesRemember x = new ClothesRemember();
    private final PlainModel model = new PlainModel();
    private final List<String> made = new ArrayList<>();
    private boolean holds = true;

    private PlainModelTest(long number) {
        random = new Random(number);
    }

    public static void main(String[] args) throws ReflectiveOperationException {
        for (Method method : ClothesRemember.class.getMethods()) {
            FACE.put(method.getName(), method);
        }
        int runs = args.length > 0 ? Integer.parseInt(args[0]) : RUNS;
        for (int number = 0; number < runs; number++) {
            new PlainModelTest(number).run(number);
        }
        Check.end("PlainModelTest");
    }

    private void run(int number) throws ReflectiveOperationException {
        if (number % 3 > 0) {
            furnish(number % 3 == 1);
        }
        while (made.size() < CALLS && holds) {
            int chosen = random.nextInt(FORMS.length + 6);
            if (chosen < FORMS.length) {
                byForm(FORMS[chosen].split(" "));
            } else if (chosen < FORMS.length + 2) {
                aText();
            } else if (chosen < FORMS.length + 4) {
                aDay();
            } else {
                aSaying();
            }
        }
    }

    /** Both are called; behind an answer that is not due the run ends, with the calls that led there. */
    private long call(String name, long... with) throws ReflectiveOperationException {
        if (made.size() >= CALLS || !holds) {
            return 0;
        }
        Method method = FACE.get(name);
        Object[] given = new Object[with.length];
        for (int i = 0; i < with.length; i++) {
            given[i] = method.getParameterTypes()[i] == long.class ? (Object) with[i] : (Object) (int) with[i];
        }
        long got = ((Number) method.invoke(x, given)).longValue();
        long due = model.call(name, with);
        made.add(name + Arrays.toString(with));
        if (got != due) {
            holds = false;
            Check.due(String.join("; ", made), got, due);
        }
        return due;
    }

    // asked of the model: the object's own calls are counted
    private int people() {
        return (int) model.call("status", 1);
    }

    private int garments() {
        return (int) model.call("status", 0);
    }

    private void furnish(boolean fully) throws ReflectiveOperationException {
        int most = fully ? 6 : 1 + random.nextInt(3);
        int deeds = 1 + random.nextInt(9);
        for (int p = 0; p < most; p++) {
            call("person", random.nextInt(10));
            for (int hour = 0; hour < 12; hour += 1 + random.nextInt(3)) {
                call("own", p, hour, random.nextInt(deeds + 1));
            }
        }
        for (int g = 0; g < (fully ? 8 : 4); g++) {
            call("garment", random.nextInt(3) == 0 ? 3 : random.nextInt(7), random.nextInt(10));
            for (int hour = random.nextInt(3); hour < 12; hour += 1 + random.nextInt(3)) {
                call("habit", g, hour, 1 + random.nextInt(deeds), 1 + random.nextInt(9));
            }
            call("wear", g, random.nextInt(most + 1) - 1);
        }
    }

    private void byForm(String[] form) throws ReflectiveOperationException {
        long[] with = new long[form.length - 1];
        boolean farOff = random.nextInt(12) == 0;
        for (int i = 0; i < with.length; i++) {
            boolean far = farOff && random.nextInt(2) == 0;
            with[i] = far ? FAR[random.nextInt(FAR.length)] : near(form[i + 1].charAt(0));
        }
        if (form[0].equals("habit") && random.nextInt(8) > 0) {
            // mostly both or none: one alone is refused
            with[3] = with[2] == 0 ? 0 : Math.max(1, with[3]);
        }
        call(form[0], with);
    }

    private long near(char meaning) {
        switch (meaning) {
            case 's': return random.nextInt(8);
            case 'g': return random.nextInt(Math.max(1, garments()));
            case 'G': return random.nextInt(garments() + 1) - 1;
            case 'p': return random.nextInt(Math.max(1, people()));
            case 'P': return random.nextInt(people() + 1) - 1;
            case 'h': return random.nextInt(12);
            case 'd': return random.nextInt(10);
            case 'n': return random.nextInt(4) == 0 ? random.nextInt(61) : random.nextInt(5);
            case 'k': return random.nextInt(7);
            case 'z': return random.nextInt(4);
            case 'l': return random.nextInt(3) == 0 ? random.nextInt(161) : random.nextInt(16);
            case 'i': return random.nextInt(14);
            case 'v': return random.nextInt(3) == 0 ? random.nextLong() : random.nextInt(12) - 1;
            case 'x': return random.nextInt();
            case 't': return 10 * random.nextInt(7) + random.nextInt(13);
            case 'b': return random.nextInt(8) == 0 ? 2 : random.nextInt(2);
            case 'f': return random.nextInt(5);
            case 'I': return random.nextInt(5) - 1;
            case 'o': return random.nextInt(3);
            case 'j': return random.nextInt(12);
            default: return random.nextInt(20);
        }
    }

    /** What a garment says on a shelf, taken for its own kind, for the one above and for any. */
    private void aSaying() throws ReflectiveOperationException {
        int s = random.nextInt(8);
        int g = random.nextInt(Math.max(1, garments()));
        call("show", s, g);
        long kind = call("garmentOf", g, 0);
        call("says", s, kind);
        call("says", s, kind == 6 ? 4 : kind == 5 ? 2 : kind == 3 ? 1 : 0);
        call("says", s, near('k'));
    }

    /** A row of told deeds, mostly near to what is done, and what goes by it. */
    private void aDay() throws ReflectiveOperationException {
        int people = people();
        int person = random.nextInt(Math.max(1, people));
        boolean forAll = random.nextInt(2) == 0;
        int size = forAll ? 12 * people : 12;
        if (made.size() + 2 * size + 10 > CALLS) {
            return;
        }
        int s = random.nextInt(8);
        call("row", s, random.nextInt(4), size);
        int unlike = random.nextInt(4);
        for (int i = 0; i < size; i++) {
            int one = forAll ? i / 12 : person;
            long deed = random.nextInt(12) < unlike ? random.nextInt(12) - 1 : call("does", one, 0, i % 12);
            call("set", s, i, deed);
        }
        call("judge", s, person);
        call("taught", s, random.nextInt(Math.max(1, garments())));
        call("fits", s);
        int k = 1 + random.nextInt(4);
        for (int i = -1; i < k && forAll; i++) {
            call("dressed", s, k, i);
        }
    }

    private void aText() throws ReflectiveOperationException {
        StringBuilder text = new StringBuilder();
        int items = 1 + random.nextInt(4);
        for (int i = 0; i < items; i++) {
            String[] item = ITEMS[random.nextInt(ITEMS.length)].split(" ");
            text.append(i == 0 ? "" : ";").append(item[0]);
            for (int at = 1; at < item.length; at++) {
                long number = random.nextInt(12) == 0 ? random.nextInt(random.nextInt(2) == 0 ? 14 : 120)
                    : near(item[at].charAt(0));
                text.append(' ').append(random.nextInt(15) == 0 ? "0" : "").append(number);
            }
        }
        spoil(text);
        if (made.size() + text.length() + 4 > CALLS) {
            return;
        }
        int s = random.nextInt(8);
        int sort = random.nextInt(4);
        call("row", s, sort, text.length());
        for (int i = 0; i < text.length(); i++) {
            // of longs only the lowest 32 bits tell a letter
            call("set", s, i, text.charAt(i) + (sort == 3 ? (long) random.nextInt() << 32 : 0));
        }
        call("wardrobe", s);
        call("fault");
        call("status", 2);
    }

    private void spoil(StringBuilder text) {
        String signs = " ;0129adehmnoprtw\0~\u00ff";
        int at = random.nextInt(text.length());
        char sign = signs.charAt(random.nextInt(signs.length()));
        switch (random.nextInt(8)) {
            case 0:
                text.setLength(at);
                break;
            case 1:
                text.setCharAt(at, sign);
                break;
            case 2:
                text.insert(at, sign);
                break;
            case 3:
                text.append(sign);
                break;
            default:
                break;
        }
    }
}
