/** What the tests share: answers that are due, rows and texts put on shelves. */
final class Check {
    private static int wrong = 0;
    private static String test = "";

    private Check() {
    }

    /** From here on, what is not as due is told with the name of this test. */
    static void begin(String name) {
        test = name.isEmpty() ? "" : name + ": ";
    }

    static void due(String call, long got, long want) {
        if (got != want) {
            wrong++;
            System.out.println(test + call + " answered " + got + ", due is " + want);
        }
    }

    /** The answers of one call over and over, for tables. */
    static void due(String call, long[] got, long... want) {
        due(call + ": how many", got.length, want.length);
        for (int i = 0; i < Math.min(got.length, want.length); i++) {
            due(call + " [" + i + "]", got[i], want[i]);
        }
    }

    static void fill(ClothesRemember x, int s, int sort, long... elements) {
        due("row for a test", x.row(s, sort, elements.length), 1);
        for (int i = 0; i < elements.length; i++) {
            due("set for a test", x.set(s, i, elements[i]), 1);
        }
    }

    static void write(ClothesRemember x, int s, String text) {
        long[] letters = new long[text.length()];
        for (int i = 0; i < letters.length; i++) {
            letters[i] = text.charAt(i);
        }
        fill(x, s, 0, letters);
    }

    /** Tells a text over what there is, by shelf 7. */
    static int tell(ClothesRemember x, String text) {
        write(x, 7, text);
        return x.wardrobe(7);
    }

    /** A new object over which the texts are told. */
    static ClothesRemember told(String... texts) {
        ClothesRemember x = new ClothesRemember();
        for (String text : texts) {
            int items = tell(x, text);
            due("items of " + text, items, text.split(";").length);
        }
        return x;
    }

    /** How often each refusal was answered so far: -1 first. */
    static void dueRefusals(String when, ClothesRemember x, int... counts) {
        for (int i = 0; i < 7; i++) {
            due(when + ": refusals " + -(i + 1), x.status(11 + i), i < counts.length ? counts[i] : 0);
        }
    }

    static void end(String name) {
        System.out.println(name + ": " + (wrong == 0 ? "all answers are as due" : wrong + " answers are not as due"));
        if (wrong != 0) {
            System.exit(1);
        }
    }
}
