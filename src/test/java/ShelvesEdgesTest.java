/** Boundary cases of promises 1 to 8. */
public final class ShelvesEdgesTest {
    private static final int MIN = Edges.MIN;
    private static final int MAX = Edges.MAX;

    public static void main(String[] args) throws Exception {
        Edges.run(ShelvesEdgesTest.class);
    }

    private static long[] elements(ClothesRemember x, int s, int n) {
        long[] all = new long[n];
        for (int i = 0; i < n; i++) {
            all[i] = x.element(s, i);
        }
        return all;
    }

    // ---- promise 1

    static void promise01NobodyIsThere() {
        ClothesRemember x = new ClothesRemember();
        Check.due("people", x.status(1), 0);
        Check.due("no first one", x.personOf(0, 0), -5);
        Check.due("the first number", x.person(0), 0);
    }

    static void promise01NoGarmentsAreThere() {
        ClothesRemember x = new ClothesRemember();
        Check.due("garments", x.status(0), 0);
        Check.due("habits", x.status(2), 0);
        Check.due("worn", x.status(3), 0);
        Check.due("no first one", x.garmentOf(0, 0), -5);
        Check.due("the first number", x.garment(0, 0), 0);
    }

    static void promise01ShelvesHoldNothingAtFirst() {
        ClothesRemember x = new ClothesRemember();
        for (int s = 0; s < 8; s++) {
            Check.due("holds(" + s + ")", x.holds(s), -1);
            Check.due("set(" + s + ", 0, 0)", x.set(s, 0, 0), -3);
        }
    }

    static void promise01TheSeedIs1AtFirst() {
        Check.due("status(5)", new ClothesRemember().status(5), 1);
    }

    static void promise01NothingHasHappenedYet() {
        ClothesRemember x = new ClothesRemember();
        Check.due("days", x.status(4), 0);
        Check.due("bodies", x.status(6), 0);
        Check.due("trace", x.trace(0), -1);
        Check.due("fault", x.fault(), -1);
        Check.dueRefusals("at first", x);
        Check.due("no image", x.restore(), -6);
    }

    static void promise01TwoObjectsShareNothing() {
        String fresh = Edges.all(new ClothesRemember());
        Edges.full().image();
        Edges.furnished().image();
        ClothesRemember x = new ClothesRemember();
        Check.due("as new", Edges.all(x).equals(fresh) ? 1 : 0, 1);
        Check.dueRefusals("as new", new ClothesRemember());
        Check.due("no image of another", x.restore(), -6);
    }

    // ---- promise 2

    static void promise02ShelvesAre0To7() {
        for (int s = 0; s <= 7; s++) {
            ClothesRemember x = new ClothesRemember();
            Check.due("row(" + s + ", 2, 1)", x.row(s, 2, 1), 1);
            for (int other = 0; other <= 7; other++) {
                Check.due("holds(" + other + ")", x.holds(other), other == s ? 102 : -1);
            }
        }
        Edges.refusedOutside("row(?, 0, 1)", Edges::furnished, 0, 7, -1, (x, s) -> x.row(s, 0, 1));
    }

    static void promise02SortsAre0To3() {
        for (int sort = 0; sort <= 3; sort++) {
            ClothesRemember x = new ClothesRemember();
            Check.due("row(0, " + sort + ", 1)", x.row(0, sort, 1), 1);
            Check.due("holds(0)", x.holds(0), 100 + sort);
        }
        Edges.refusedOutside("row(0, ?, 1)", Edges::furnished, 0, 3, -6, (x, sort) -> x.row(0, sort, 1));
        Edges.refusedOutside("row(2, ?, 0)", Edges::furnished, 0, 3, -6, (x, sort) -> x.row(2, sort, 0));
    }

    static void promise02SizesAre0To160() {
        for (int sort = 0; sort <= 3; sort++) {
            ClothesRemember x = new ClothesRemember();
            Check.due("row(0, " + sort + ", 160)", x.row(0, sort, 160), 1);
            Check.due("the last there is", x.set(0, 159, 7), 1);
            Check.due("the last there is", x.element(0, 159), 7);
            Check.due("none behind it", x.set(0, 160, 7), -5);
            Check.due("row(0, " + sort + ", 0)", x.row(0, sort, 0), 1);
            Check.due("an empty row", x.holds(0), 100 + sort);
            Check.due("none is there", x.set(0, 0, 7), -5);
        }
        Edges.refused("row(0, 0, -1)", Edges::furnished, -4, x -> x.row(0, 0, -1));
        Edges.refused("row(0, 0, MIN)", Edges::furnished, -4, x -> x.row(0, 0, MIN));
        Edges.refused("row(0, 0, 161)", Edges::furnished, -7, x -> x.row(0, 0, 161));
        Edges.refused("row(2, 3, 161)", Edges::furnished, -7, x -> x.row(2, 3, 161));
        Edges.refused("row(1, 0, MAX)", Edges::furnished, -7, x -> x.row(1, 0, MAX));
    }

    static void promise02ElementsAre0AtFirst() {
        ClothesRemember x = new ClothesRemember();
        x.row(0, 3, 160);
        for (int i = 0; i < 160; i++) {
            x.set(0, i, -1);
        }
        x.row(0, 2, 160);
        Check.due("over a row", elements(x, 0, 160), new long[160]);
        ClothesRemember y = new ClothesRemember();
        Check.fill(y, 0, 3, 5, 6, 7);
        y.row(0, 3, 1);
        Check.due("over a longer row", y.element(0, 0), 0);
        y.row(0, 3, 3);
        Check.due("longer again", elements(y, 0, 3), new long[3]);
        Check.fill(y, 0, 3, 5, 6, 7);
        y.show(0, -1);
        y.row(0, 3, 3);
        Check.due("over nothing", elements(y, 0, 3), new long[3]);
    }

    static void promise02RefusalsInTheirOrder() {
        Edges.refused("-1 ahead of -4", Edges::furnished, -1, x -> x.row(-1, 0, -1));
        Edges.refused("-1 ahead of -6", Edges::furnished, -1, x -> x.row(8, 4, 1));
        Edges.refused("-1 ahead of -7", Edges::furnished, -1, x -> x.row(8, 0, 161));
        Edges.refused("-4 ahead of -6", Edges::furnished, -4, x -> x.row(0, 4, -1));
        Edges.refused("-6 ahead of -7", Edges::furnished, -6, x -> x.row(0, -1, 161));
        Edges.refused("-1 ahead of -6 and -7", Edges::furnished, -1, x -> x.row(MIN, MAX, MAX));
    }

    // ---- promise 3

    static void promise03FirstAndLastElement() {
        for (int n : new int[] {1, 2, 160}) {
            ClothesRemember x = new ClothesRemember();
            x.row(7, 1, n);
            Check.due("the last of " + n, x.set(7, n - 1, 8), 1);
            Check.due("the first of " + n, x.set(7, 0, 9), 1);
            Check.due("the first of " + n, x.element(7, 0), 9);
            Check.due("the last of " + n, x.element(7, n - 1), n == 1 ? 9 : 8);
            Edges.refusedOutside("set(7, ?, 1) of " + n, () -> rowOf(n), 0, n - 1, -5, (y, i) -> y.set(7, i, 1));
        }
    }

    private static ClothesRemember rowOf(int n) {
        ClothesRemember x = new ClothesRemember();
        x.row(7, 1, n);
        return x;
    }

    static void promise03AnEmptyRowHasNoElement() {
        Edges.refusedOutside("set(7, ?, 1)", Edges::furnished, 0, -1, -5, (x, i) -> x.set(7, i, 1));
    }

    static void promise03ThatElementAlone() {
        ClothesRemember x = new ClothesRemember();
        Check.fill(x, 0, 3, 1, 2, 3);
        Check.fill(x, 1, 3, 1, 2, 3);
        x.set(0, 1, MIN);
        Check.due("shelf 0", elements(x, 0, 3), 1, MIN, 3);
        Check.due("shelf 1", elements(x, 1, 3), 1, 2, 3);
    }

    private static void dueKept(int sort, long v, long kept) {
        ClothesRemember x = new ClothesRemember();
        x.row(0, sort, 1);
        Check.due("set(0, 0, " + v + ") of sort " + sort, x.set(0, 0, v), 1);
        Check.due(v + " in sort " + sort, x.element(0, 0), kept);
    }

    static void promise03BytesKeep8Bits() {
        long[][] all = {{127, 127}, {128, -128}, {255, -1}, {256, 0}, {257, 1}, {-128, -128}, {-129, 127}, {-256, 0},
            {Long.MAX_VALUE, -1}, {Long.MIN_VALUE, 0}};
        for (long[] one : all) {
            dueKept(0, one[0], one[1]);
        }
    }

    static void promise03ShortsKeep16Bits() {
        long[][] all = {{32767, 32767}, {32768, -32768}, {65535, -1}, {65536, 0}, {65537, 1}, {-32768, -32768},
            {-32769, 32767}, {Long.MAX_VALUE, -1}, {Long.MIN_VALUE, 0}};
        for (long[] one : all) {
            dueKept(1, one[0], one[1]);
        }
    }

    static void promise03IntsKeep32Bits() {
        long[][] all = {{MAX, MAX}, {MAX + 1L, MIN}, {0xFFFFFFFFL, -1}, {1L << 32, 0}, {(1L << 32) + 1, 1},
            {MIN, MIN}, {MIN - 1L, MAX}, {Long.MAX_VALUE, -1}, {Long.MIN_VALUE, 0}};
        for (long[] one : all) {
            dueKept(2, one[0], one[1]);
        }
    }

    static void promise03LongsKeepAll() {
        for (long v : new long[] {Long.MAX_VALUE, Long.MIN_VALUE, -1, 1L << 32, 0xFFFFFFFFL}) {
            dueKept(3, v, v);
        }
    }

    static void promise03NoSuchShelf() {
        Edges.refusedOutside("set(?, 0, 1)", Edges::furnished, 0, 7, -1, (x, s) -> x.set(s, 0, 1));
    }

    static void promise03AGarmentIsNoRow() {
        Edges.refused("set(1, 0, 1)", Edges::furnished, -2, x -> x.set(1, 0, 1));
        Edges.refused("set(1, 0, 1) of the last", Edges::full, -2, x -> x.set(1, 0, 1));
    }

    static void promise03NothingIsNoRow() {
        Edges.refused("set(2, 0, 1)", Edges::furnished, -3, x -> x.set(2, 0, 1));
        Edges.refused("set(0, 0, 1) of a new one", Edges::empty, -3, x -> x.set(0, 0, 1));
    }

    static void promise03RefusalsInTheirOrder() {
        Edges.refused("-1 ahead of -5", Edges::furnished, -1, x -> x.set(8, 12, 1));
        Edges.refused("-2 ahead of -5", Edges::furnished, -2, x -> x.set(1, -1, 1));
        Edges.refused("-3 ahead of -5", Edges::furnished, -3, x -> x.set(2, MAX, 1));
    }

    // ---- promise 4

    /** Shelf 0: 1 to 5; shelf 1: three of the same sort; shelf 2: another sort; 3 a garment; 4 nothing; 5 empty. */
    private static ClothesRemember forCopies() {
        ClothesRemember x = new ClothesRemember();
        Check.fill(x, 0, 1, 1, 2, 3, 4, 5);
        Check.fill(x, 1, 1, 6, 7, 8);
        Check.fill(x, 2, 2, 9, 9, 9, 9, 9);
        x.garment(0, 0);
        x.show(3, 0);
        x.row(5, 1, 0);
        return x;
    }

    static void promise04NoneMayBeCopiedFromAnyPlaceThere() {
        Edges.asked("from the start", ShelvesEdgesTest::forCopies, 1, x -> x.copy(0, 1, 0, 0, 0));
        Edges.asked("from the end", ShelvesEdgesTest::forCopies, 1, x -> x.copy(0, 1, 5, 0, 0));
        Edges.asked("to the end", ShelvesEdgesTest::forCopies, 1, x -> x.copy(0, 1, 0, 3, 0));
        Edges.asked("of empty rows", ShelvesEdgesTest::forCopies, 1, x -> x.copy(5, 5, 0, 0, 0));
        Edges.refused("behind the end", ShelvesEdgesTest::forCopies, -5, x -> x.copy(0, 1, 6, 0, 0));
        Edges.refused("to behind the end", ShelvesEdgesTest::forCopies, -5, x -> x.copy(0, 1, 0, 4, 0));
        Edges.refused("of empty rows", ShelvesEdgesTest::forCopies, -5, x -> x.copy(5, 5, 1, 0, 0));
        Edges.refused("below", ShelvesEdgesTest::forCopies, -5, x -> x.copy(0, 1, -1, 0, 0));
        Edges.refused("to below", ShelvesEdgesTest::forCopies, -5, x -> x.copy(0, 1, 0, -1, 0));
    }

    static void promise04UpToTheVeryEnds() {
        ClothesRemember x = forCopies();
        Check.due("all of the shorter", x.copy(0, 1, 2, 0, 3), 1);
        Check.due("came", elements(x, 1, 3), 3, 4, 5);
        Check.due("back", x.copy(1, 0, 0, 2, 3), 1);
        Check.due("onto the last alone", x.copy(1, 0, 0, 4, 1), 1);
        Check.due("came", elements(x, 0, 5), 1, 2, 3, 4, 3);
        Check.due("behind the end is none", x.element(0, 5), 0);
        Edges.refused("one more than p has", ShelvesEdgesTest::forCopies, -5, y -> y.copy(0, 1, 3, 0, 3));
        Edges.refused("one more than q has", ShelvesEdgesTest::forCopies, -5, y -> y.copy(0, 1, 0, 1, 3));
        Edges.refused("one of none", ShelvesEdgesTest::forCopies, -5, y -> y.copy(5, 0, 0, 0, 1));
        Edges.refused("one to none", ShelvesEdgesTest::forCopies, -5, y -> y.copy(0, 5, 0, 0, 1));
    }

    static void promise04All160() {
        ClothesRemember x = new ClothesRemember();
        x.row(0, 0, 160);
        x.row(7, 0, 160);
        x.set(0, 0, -5);
        x.set(0, 159, -6);
        Check.due("all", x.copy(0, 7, 0, 0, 160), 1);
        Check.due("the first", x.element(7, 0), -5);
        Check.due("the last", x.element(7, 159), -6);
        Check.due("one more", x.copy(0, 7, 0, 0, 161), -5);
        Check.due("by one off", x.copy(0, 7, 1, 0, 160), -5);
        Check.due("by one off", x.copy(0, 7, 0, 1, 160), -5);
    }

    static void promise04ElementsAsTheyWereAhead() {
        ClothesRemember x = forCopies();
        Check.due("one up", x.copy(0, 0, 0, 1, 4), 1);
        Check.due("one up", elements(x, 0, 5), 1, 1, 2, 3, 4);
        x = forCopies();
        Check.due("one down", x.copy(0, 0, 1, 0, 4), 1);
        Check.due("one down", elements(x, 0, 5), 2, 3, 4, 5, 5);
        x = forCopies();
        Check.due("onto itself", x.copy(0, 0, 0, 0, 5), 1);
        Check.due("onto itself", elements(x, 0, 5), 1, 2, 3, 4, 5);
    }

    static void promise04NoSuchShelf() {
        Edges.refusedOutside("copy(?, 1, 0, 0, 1)", ShelvesEdgesTest::forCopies, 0, 7, -1,
            (x, p) -> x.copy(p, 1, 0, 0, 1));
        Edges.refusedOutside("copy(0, ?, 0, 0, 1)", ShelvesEdgesTest::forCopies, 0, 7, -1,
            (x, q) -> x.copy(0, q, 0, 0, 1));
        Edges.refused("neither", ShelvesEdgesTest::forCopies, -1, x -> x.copy(-1, 8, 0, 0, 1));
    }

    static void promise04GarmentsAreNoRows() {
        Edges.refused("from a garment", ShelvesEdgesTest::forCopies, -2, x -> x.copy(3, 0, 0, 0, 1));
        Edges.refused("to a garment", ShelvesEdgesTest::forCopies, -2, x -> x.copy(0, 3, 0, 0, 1));
        Edges.refused("both", ShelvesEdgesTest::forCopies, -2, x -> x.copy(3, 3, 0, 0, 1));
    }

    static void promise04RowsOfTwoSorts() {
        for (int one = 0; one <= 3; one++) {
            for (int other = 0; other <= 3; other++) {
                ClothesRemember x = new ClothesRemember();
                x.row(0, one, 2);
                x.row(1, other, 2);
                x.set(0, 0, 5);
                Check.due(one + " to " + other, x.copy(0, 1, 0, 0, 1), one == other ? 1 : -2);
                Check.due(one + " to " + other, x.element(1, 0), one == other ? 5 : 0);
                Check.due(one + " to " + other, x.status(12), one == other ? 0 : 1);
            }
        }
        Edges.refused("two sorts, none to copy", ShelvesEdgesTest::forCopies, -2, x -> x.copy(0, 2, 0, 0, 0));
    }

    static void promise04NothingEither() {
        Edges.refused("from nothing", ShelvesEdgesTest::forCopies, -3, x -> x.copy(4, 0, 0, 0, 1));
        Edges.refused("to nothing", ShelvesEdgesTest::forCopies, -3, x -> x.copy(0, 4, 0, 0, 1));
        Edges.refused("both", ShelvesEdgesTest::forCopies, -3, x -> x.copy(4, 4, 0, 0, 1));
        Edges.refused("another sort of nothing", ShelvesEdgesTest::forCopies, -3, x -> x.copy(2, 4, 0, 0, 1));
    }

    static void promise04BelowNone() {
        Edges.refused("-1", ShelvesEdgesTest::forCopies, -4, x -> x.copy(0, 1, 0, 0, -1));
        Edges.refused("MIN", ShelvesEdgesTest::forCopies, -4, x -> x.copy(0, 1, 0, 0, MIN));
        Edges.refused("-1, where it would end there", ShelvesEdgesTest::forCopies, -4, x -> x.copy(0, 1, 1, 1, -1));
    }

    static void promise04EndsThatWrapAround() {
        Edges.refused("n MAX", ShelvesEdgesTest::forCopies, -5, x -> x.copy(0, 1, 0, 0, MAX));
        Edges.refused("i and n wrap", ShelvesEdgesTest::forCopies, -5, x -> x.copy(0, 1, MAX, 0, MAX));
        Edges.refused("j and n wrap", ShelvesEdgesTest::forCopies, -5, x -> x.copy(0, 1, 0, MAX, MAX));
        Edges.refused("i MAX, n 1", ShelvesEdgesTest::forCopies, -5, x -> x.copy(0, 1, MAX, 0, 1));
        Edges.refused("j MAX, n 1", ShelvesEdgesTest::forCopies, -5, x -> x.copy(0, 1, 0, MAX, 1));
        Edges.refused("i MIN", ShelvesEdgesTest::forCopies, -5, x -> x.copy(0, 1, MIN, 0, 1));
        Edges.refused("j MIN", ShelvesEdgesTest::forCopies, -5, x -> x.copy(0, 1, 0, MIN, 1));
        Edges.refused("i MIN, n MAX", ShelvesEdgesTest::forCopies, -5, x -> x.copy(0, 1, MIN, 0, MAX));
    }

    static void promise04RefusalsInTheirOrder() {
        Edges.refused("-1 ahead of -2", ShelvesEdgesTest::forCopies, -1, x -> x.copy(3, 8, 0, 0, 1));
        Edges.refused("-1 ahead of -2", ShelvesEdgesTest::forCopies, -1, x -> x.copy(-1, 3, 0, 0, 1));
        Edges.refused("-1 ahead of -3", ShelvesEdgesTest::forCopies, -1, x -> x.copy(4, 8, 0, 0, 1));
        Edges.refused("-1 ahead of -3", ShelvesEdgesTest::forCopies, -1, x -> x.copy(8, 4, 0, 0, 1));
        Edges.refused("-1 ahead of -4", ShelvesEdgesTest::forCopies, -1, x -> x.copy(0, 8, 0, 0, -1));
        Edges.refused("-1 ahead of -5", ShelvesEdgesTest::forCopies, -1, x -> x.copy(8, 0, -1, 0, 1));
        Edges.refused("-2 ahead of -3", ShelvesEdgesTest::forCopies, -2, x -> x.copy(3, 4, 0, 0, 1));
        Edges.refused("-2 ahead of -3", ShelvesEdgesTest::forCopies, -2, x -> x.copy(4, 3, 0, 0, 1));
        Edges.refused("-2 ahead of -4", ShelvesEdgesTest::forCopies, -2, x -> x.copy(3, 0, 0, 0, -1));
        Edges.refused("two sorts ahead of -4", ShelvesEdgesTest::forCopies, -2, x -> x.copy(0, 2, 0, 0, -1));
        Edges.refused("-2 ahead of -5", ShelvesEdgesTest::forCopies, -2, x -> x.copy(0, 3, 9, 9, 9));
        Edges.refused("two sorts ahead of -5", ShelvesEdgesTest::forCopies, -2, x -> x.copy(2, 0, 9, 9, 9));
        Edges.refused("-3 ahead of -4", ShelvesEdgesTest::forCopies, -3, x -> x.copy(0, 4, 0, 0, -1));
        Edges.refused("-3 ahead of -4", ShelvesEdgesTest::forCopies, -3, x -> x.copy(4, 0, 0, 0, -1));
        Edges.refused("-3 ahead of -5", ShelvesEdgesTest::forCopies, -3, x -> x.copy(4, 0, 9, 9, 9));
        Edges.refused("-3 ahead of -5", ShelvesEdgesTest::forCopies, -3, x -> x.copy(0, 4, -1, 0, 1));
        Edges.refused("-4 ahead of -5", ShelvesEdgesTest::forCopies, -4, x -> x.copy(0, 1, -1, 0, -1));
        Edges.refused("-4 ahead of -5", ShelvesEdgesTest::forCopies, -4, x -> x.copy(0, 1, 0, 9, -1));
    }

    // ---- promise 5

    static void promise05FirstAndLastElement() {
        for (int n : new int[] {1, 160}) {
            ClothesRemember x = new ClothesRemember();
            x.row(0, 3, n);
            x.set(0, 0, 4);
            x.set(0, n - 1, Long.MIN_VALUE);
            Check.due("the last of " + n, x.element(0, n - 1), Long.MIN_VALUE);
            Check.due("the first of " + n, x.element(0, 0), n == 1 ? Long.MIN_VALUE : 4);
            Check.due("behind the last of " + n, x.element(0, n), 0);
            Check.due("below the first of " + n, x.element(0, -1), 0);
        }
    }

    static void promise05NoneThereIs0() {
        ClothesRemember x = new ClothesRemember();
        Check.fill(x, 0, 3, 7, 7, 7);
        for (int i : Edges.outside(0, 2)) {
            Check.due("element(0, " + i + ")", x.element(0, i), 0);
        }
        x.row(0, 3, 0);
        Check.due("of an empty row", x.element(0, 0), 0);
        Check.fill(x, 0, 3, 7, 7, 7);
        x.row(0, 3, 2);
        Check.due("of a longer row ahead", x.element(0, 2), 0);
    }

    static void promise05NoRowIs0() {
        ClothesRemember x = new ClothesRemember();
        Check.fill(x, 0, 3, 7, 7, 7);
        x.garment(6, 9);
        x.show(0, 0);
        Check.due("a garment over a row", x.element(0, 0), 0);
        Check.fill(x, 0, 3, 7, 7, 7);
        x.show(0, -1);
        Check.due("nothing over a row", x.element(0, 0), 0);
        Check.due("nothing", x.element(5, 0), 0);
        for (int s : Edges.outside(0, 7)) {
            Check.due("element(" + s + ", 0)", x.element(s, 0), 0);
        }
    }

    static void promise05NothingIsRefused() {
        Edges.askedOutside("element(?, 0)", Edges::furnished, 0, 7, 0, (x, s) -> x.element(s, 0));
        Edges.askedOutside("element(0, ?)", Edges::furnished, 0, 11, 0, (x, i) -> x.element(0, i));
        Edges.asked("element(1, 0)", Edges::furnished, 0, x -> x.element(1, 0));
        Edges.asked("element(2, 0)", Edges::furnished, 0, x -> x.element(2, 0));
        Edges.asked("element(7, 0)", Edges::furnished, 0, x -> x.element(7, 0));
        Edges.asked("element(4, 0)", Edges::furnished, Long.MIN_VALUE, x -> x.element(4, 0));
    }

    // ---- promise 6

    static void promise06ShelvesAre0To7() {
        for (int s = 0; s <= 7; s++) {
            ClothesRemember x = Edges.garmentsAlone();
            x.show(1, -1);
            x.show(0, -1);
            Check.due("show(" + s + ", 7)", x.show(s, 7), 1);
            for (int other = 0; other <= 7; other++) {
                Check.due("holds(" + other + ")", x.holds(other), other == s ? 7 : -1);
            }
        }
        Edges.refusedOutside("show(?, 0)", Edges::furnished, 0, 7, -1, (x, s) -> x.show(s, 0));
        Edges.refusedOutside("show(?, NONE)", Edges::furnished, 0, 7, -1, (x, s) -> x.show(s, -1));
    }

    static void promise06GarmentsAreThoseThere() {
        for (int g = 0; g <= 7; g++) {
            ClothesRemember x = Edges.garmentsAlone();
            Check.due("show(2, " + g + ")", x.show(2, g), 1);
            Check.due("holds(2)", x.holds(2), g);
        }
        for (int g : new int[] {-2, 8, MIN, MAX, 100}) {
            Edges.refused("show(2, " + g + ") of eight", Edges::full, -1, x -> x.show(2, g));
        }
        for (int g : new int[] {-2, 4, MIN, MAX, 100}) {
            Edges.refused("show(0, " + g + ") of four", Edges::furnished, -1, x -> x.show(0, g));
        }
        Edges.refused("show(0, 0) of none", Edges::peopleAlone, -1, x -> x.show(0, 0));
    }

    static void promise06NoneIsNothing() {
        ClothesRemember x = Edges.furnished();
        for (int s = 0; s <= 7; s++) {
            Check.due("show(" + s + ", NONE)", x.show(s, -1), 0);
            Check.due("holds(" + s + ")", x.holds(s), -1);
        }
        Check.due("of a new one", new ClothesRemember().show(0, -1), 0);
        Edges.asked("NONE over nothing", Edges::furnished, 0, y -> y.show(2, -1));
    }

    static void promise06TwoWrongsCountOnce() {
        Edges.refused("neither shelf nor garment", Edges::furnished, -1, x -> x.show(8, 4));
        Edges.refused("neither shelf nor garment", Edges::empty, -1, x -> x.show(-1, 0));
    }

    // ---- promise 7

    static void promise07NothingIsNone() {
        Edges.asked("nothing", Edges::furnished, -1, x -> x.holds(2));
        Edges.askedOutside("holds(?)", Edges::furnished, 0, 7, -1, (x, s) -> x.holds(s));
    }

    static void promise07FirstAndLastGarment() {
        ClothesRemember x = Edges.garmentsAlone();
        x.show(0, 0);
        x.show(7, 7);
        Check.due("the first", x.holds(0), 0);
        Check.due("the last", x.holds(7), 7);
    }

    static void promise07RowsOfAllSorts() {
        for (int sort = 0; sort <= 3; sort++) {
            for (int n : new int[] {0, 160}) {
                ClothesRemember x = new ClothesRemember();
                x.row(7, sort, n);
                Check.due("sort " + sort + ", " + n, x.holds(7), 100 + sort);
            }
        }
    }

    static void promise07WhatIsRefusedIsNotHeld() {
        ClothesRemember x = new ClothesRemember();
        x.row(0, 0, 161);
        x.row(0, 4, 1);
        x.show(0, 0);
        Check.due("nothing still", x.holds(0), -1);
    }

    // ---- promise 8

    /** One garment of a kind in shelf 0, with habits at that many hours, each pulling as told by firm and a. */
    private static ClothesRemember shown(int kind, int a, int habits, int firm) {
        ClothesRemember x = new ClothesRemember();
        x.garment(kind, a);
        for (int hour = 0; hour < habits; hour++) {
            x.habit(0, hour, 3, firm);
        }
        x.show(0, 0);
        return x;
    }

    static void promise08HabitsFrom0To12() {
        for (int kind = 0; kind <= 6; kind++) {
            for (int habits = 0; habits <= 12; habits += 4) {
                Check.due("kind " + kind + " with " + habits, shown(kind, 9, habits, 1).says(0, 0), habits);
            }
        }
    }

    static void promise08HoursToGoFrom0To12() {
        for (int kind : new int[] {1, 3, 6}) {
            for (int habits = 0; habits <= 12; habits += 4) {
                Check.due("kind " + kind + " with " + habits, shown(kind, 9, habits, 9).says(0, kind), habits);
            }
        }
    }

    static void promise08APullOf9Or10() {
        Check.due("coat pulls 9", shown(1, 4, 12, 5).says(0, 1), 0);
        Check.due("coat pulls 10", shown(1, 5, 12, 5).says(0, 1), 12);
        Check.due("uniform pulls 9", shown(3, 4, 12, 4).says(0, 3), 0);
        Check.due("uniform pulls 10", shown(3, 5, 12, 4).says(0, 3), 12);
        Check.due("uniform for a coat pulls 9", shown(3, 4, 12, 4).says(0, 1), 0);
        Check.due("uniform for a coat pulls 10", shown(3, 5, 12, 4).says(0, 1), 12);
        Check.due("gown pulls 8, and 17 at hour a", shown(6, 9, 12, 4).says(0, 6), 1);
        Check.due("gown pulls 8, its hour a without a habit", shown(6, 9, 9, 4).says(0, 6), 0);
        Check.due("gown pulls 10", shown(6, 9, 12, 5).says(0, 6), 12);
        Check.due("gown pulls 2, and 11 at hour 0", shown(6, 0, 12, 1).says(0, 6), 1);
    }

    static void promise08WornOrNot() {
        for (int kind : new int[] {1, 3, 6}) {
            ClothesRemember x = shown(kind, 9, 12, 9);
            x.person(0);
            x.wear(0, 0);
            Check.due("worn of kind " + kind, x.says(0, kind), 12);
        }
    }

    static void promise08OtherUniformsHelp() {
        ClothesRemember x = shown(3, 0, 12, 8);
        Check.due("pulls 9", x.says(0, 3), 0);
        x.garment(3, 0);
        x.habit(1, 7, 3, 1);
        Check.due("pulls 10 at hour 7", x.says(0, 3), 1);
        x.person(0);
        x.wear(1, 0);
        Check.due("worn or not", x.says(0, 1), 1);
    }

    static void promise08StepsOfShirtAndRag() {
        Check.due("shirt", shown(2, 0, 12, 9).says(0, 2), 2);
        Check.due("rag for a shirt", shown(5, 0, 0, 9).says(0, 2), 3);
        Check.due("rag", shown(5, 0, 12, 9).says(0, 5), 3);
    }

    static void promise08SilkFrom12To0() {
        for (int habits = 0; habits <= 12; habits += 4) {
            Check.due("silk with " + habits, shown(4, 0, habits, 9).says(0, 4), 12 - habits);
            Check.due("gown for silk with " + habits, shown(6, 0, habits, 9).says(0, 4), 12 - habits);
        }
    }

    static void promise08TellsOfTheGarmentAsItIsNow() {
        ClothesRemember x = shown(1, 9, 2, 9);
        x.habit(0, 11, 1, 1);
        Check.due("a habit more", x.says(0, 0), 3);
        x.habit(0, 0, 0, 0);
        Check.due("one less", x.says(0, 0), 2);
        Check.due("goes at two hours", x.says(0, 1), 2);
    }

    static void promise08NoSuchShelfOrKind() {
        Edges.refusedOutside("says(?, 0)", Edges::furnished, 0, 7, -1, (x, s) -> x.says(s, 0));
        Edges.refusedOutside("says(1, ?)", Edges::furnished, 0, 6, -1, (x, kind) -> x.says(1, kind));
        Edges.refused("neither", Edges::furnished, -1, x -> x.says(8, 7));
        Check.due("the last shelf", shelf7().says(7, 0), 0);
    }

    private static ClothesRemember shelf7() {
        ClothesRemember x = new ClothesRemember();
        x.garment(6, 0);
        x.show(7, 0);
        return x;
    }

    static void promise08NotOfTheKind() {
        int[][] kindsAbove = {{0}, {0, 1}, {0, 2}, {0, 1, 3}, {0, 4}, {0, 2, 5}, {0, 4, 6}};
        for (int own = 0; own <= 6; own++) {
            for (int kind = 0; kind <= 6; kind++) {
                boolean isOne = false;
                for (int above : kindsAbove[own]) {
                    isOne |= above == kind;
                }
                if (!isOne) {
                    int of = own;
                    int wanted = kind;
                    Edges.refused("kind " + own + " for " + kind, () -> shown(of, 1, 3, 3), -2, x -> x.says(0, wanted));
                } else {
                    Check.due("kind " + own + " for " + kind, shown(own, 1, 3, 3).says(0, kind) >= 0 ? 1 : 0, 1);
                }
            }
        }
    }

    static void promise08ARowIsNoGarment() {
        for (int s : new int[] {0, 3, 4, 7}) {
            Edges.refused("says(" + s + ", 0)", Edges::furnished, -2, x -> x.says(s, 0));
        }
    }

    static void promise08NothingIsNoGarment() {
        for (int kind = 0; kind <= 6; kind++) {
            int of = kind;
            Edges.refused("says(2, " + kind + ")", Edges::furnished, -3, x -> x.says(2, of));
        }
    }

    static void promise08RefusalsInTheirOrder() {
        Edges.refused("-1 ahead of -2, a row", Edges::furnished, -1, x -> x.says(0, 7));
        Edges.refused("-1 ahead of -2, another kind", Edges::furnished, -1, x -> x.says(1, -1));
        Edges.refused("-1 ahead of -3", Edges::furnished, -1, x -> x.says(2, 7));
    }
}
