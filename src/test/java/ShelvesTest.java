/** Promises 1 to 8: a new object, rows, garments on shelves, what they say. */
public final class ShelvesTest {
    private static final int MIN = Integer.MIN_VALUE;
    private static final int MAX = Integer.MAX_VALUE;

    public static void main(String[] args) {
        aNewObject();
        rows();
        elements();
        copies();
        shows();
        sayings();
        sayingsOfAll();
        Check.end("ShelvesTest");
    }

    private static void aNewObject() {
        ClothesRemember x = new ClothesRemember();
        for (int what = 0; what <= 4; what++) {
            Check.due("1: status(" + what + ")", x.status(what), 0);
        }
        Check.due("1: seed", x.status(5), 1);
        Check.due("1: bodies", x.status(6), 0);
        Check.due("1: fault", x.fault(), -1);
        Check.due("1: trace", x.trace(0), -1);
        for (int s = 0; s < 8; s++) {
            Check.due("1: holds", x.holds(s), -1);
        }
        Check.dueRefusals("1", x);
    }

    private static void rows() {
        ClothesRemember x = new ClothesRemember();
        Check.due("2: all wrong", x.row(-1, -1, -1), -1);
        Check.due("2: shelf 8", x.row(8, 0, 0), -1);
        Check.due("2: below ahead of sort", x.row(0, 4, -1), -4);
        Check.due("2: sort ahead of room", x.row(0, 4, 161), -6);
        Check.due("2: sort -1", x.row(0, -1, 1), -6);
        Check.due("2: room", x.row(0, 3, 161), -7);
        Check.due("2: far beyond", x.row(0, 3, MAX), -7);
        Check.due("2: far below", x.row(0, 3, MIN), -4);
        Check.due("2: nothing held", x.holds(0), -1);
        for (int sort = 0; sort <= 3; sort++) {
            Check.due("2: sort " + sort, x.row(7, sort, 160), 1);
            Check.due("7: sort " + sort, x.holds(7), 100 + sort);
        }
        x.set(7, 159, 5);
        Check.due("2: empty", x.row(7, 0, 0), 1);
        Check.due("2: none there", x.element(7, 0), 0);
        Check.due("2: new again", x.row(7, 0, 160), 1);
        Check.due("2: zeros", x.element(7, 159), 0);
        Check.dueRefusals("2", x, 2, 0, 0, 2, 0, 2, 2);
    }

    private static void elements() {
        ClothesRemember x = new ClothesRemember();
        long v = 0x123456789ABCDEF0L;
        long[] kept = {(byte) v, (short) v, (int) v, v};
        for (int sort = 0; sort <= 3; sort++) {
            x.row(sort, sort, 3);
            Check.due("3: lowest bits", x.set(sort, 2, v), 1);
            Check.due("5: lowest bits", x.element(sort, 2), kept[sort]);
            x.set(sort, 0, -1);
            Check.due("5: -1 stays", x.element(sort, 0), -1);
            Check.due("3: neighbour untouched", x.element(sort, 1), 0);
        }
        x.set(0, 1, 200);
        Check.due("5: a byte has a sign", x.element(0, 1), -56);
        x.garment(0, 0);
        x.show(4, 0);
        Check.due("3: no shelf", x.set(-1, -1, 0), -1);
        Check.due("3: a garment", x.set(4, -1, 0), -2);
        Check.due("3: nothing", x.set(5, -1, 0), -3);
        Check.due("3: below", x.set(0, -1, 0), -5);
        Check.due("3: behind", x.set(0, 3, 0), -5);
        Check.due("3: far", x.set(0, MIN, 0), -5);
        Check.due("3: far behind", x.set(0, MAX, 0), -5);
        Check.due("5: no shelf", x.element(8, 0), 0);
        Check.due("5: a garment", x.element(4, 0), 0);
        Check.due("5: nothing", x.element(5, 0), 0);
        Check.due("5: below", x.element(3, -1), 0);
        Check.due("5: behind", x.element(3, 3), 0);
        Check.due("5: far", x.element(3, MAX), 0);
        Check.dueRefusals("3 and 5", x, 1, 1, 1, 0, 4);
    }

    private static void copies() {
        ClothesRemember x = new ClothesRemember();
        Check.fill(x, 0, 2, 1, 2, 3, 4, 5);
        Check.fill(x, 1, 2, 0, 0, 0);
        x.row(2, 1, 5);
        x.garment(0, 0);
        x.show(3, 0);
        Check.due("4: ok", x.copy(0, 1, 1, 0, 3), 1);
        Check.due("4: came", new long[] {x.element(1, 0), x.element(1, 1), x.element(1, 2)}, 2, 3, 4);
        Check.due("4: over itself, up", x.copy(0, 0, 0, 1, 4), 1);
        Check.due("4: as ahead", new long[] {x.element(0, 0), x.element(0, 1), x.element(0, 2),
            x.element(0, 3), x.element(0, 4)}, 1, 1, 2, 3, 4);
        Check.due("4: over itself, down", x.copy(0, 0, 1, 0, 4), 1);
        Check.due("4: as ahead", new long[] {x.element(0, 0), x.element(0, 1), x.element(0, 2),
            x.element(0, 3), x.element(0, 4)}, 1, 2, 3, 4, 4);
        Check.due("4: none at the end", x.copy(0, 1, 5, 3, 0), 1);
        Check.due("4: no shelf", x.copy(0, -1, 0, 0, -1), -1);
        Check.due("4: no shelf ahead of a garment", x.copy(8, 3, 0, 0, -1), -1);
        Check.due("4: a garment and nothing", x.copy(3, 4, 0, 0, -1), -2);
        Check.due("4: nothing and a garment", x.copy(4, 3, 0, 0, -1), -2);
        Check.due("4: two sorts", x.copy(0, 2, 9, 9, -1), -2);
        x.row(5, 0, 5);
        Check.due("4: bytes and shorts", x.copy(5, 2, 0, 0, 1), -2);
        Check.due("4: shorts and bytes", x.copy(2, 5, 0, 0, 1), -2);
        Check.due("4: to nothing", x.copy(0, 4, 9, 9, -1), -3);
        Check.due("4: from nothing", x.copy(4, 0, 9, 9, -1), -3);
        Check.due("4: below", x.copy(0, 1, -1, -1, -1), -4);
        Check.due("4: i below", x.copy(0, 1, -1, 0, 1), -5);
        Check.due("4: j below", x.copy(0, 1, 0, -1, 1), -5);
        Check.due("4: i's end", x.copy(0, 1, 4, 0, 2), -5);
        Check.due("4: j's end", x.copy(0, 1, 0, 2, 2), -5);
        Check.due("4: none behind the end", x.copy(0, 1, 6, 0, 0), -5);
        Check.due("4: wrapping", x.copy(0, 1, MAX, 0, MAX), -5);
        Check.due("4: wrapping", x.copy(0, 1, 0, MAX, 2), -5);
        Check.due("4: wrapping", x.copy(0, 1, MIN, 0, 1), -5);
        Check.dueRefusals("4", x, 2, 5, 2, 1, 8);
    }

    private static void shows() {
        ClothesRemember x = new ClothesRemember();
        Check.due("6: no garment yet", x.show(0, 0), -1);
        x.garment(3, 4);
        x.garment(1, 4);
        Check.due("6: ok", x.show(0, 1), 1);
        Check.due("7: number", x.holds(0), 1);
        Check.due("6: over it", x.show(0, 0), 1);
        Check.due("7: number", x.holds(0), 0);
        Check.due("6: no such", x.show(0, 2), -1);
        Check.due("6: below NONE", x.show(0, -2), -1);
        Check.due("6: no shelf, NONE", x.show(-1, -1), -1);
        Check.due("6: no shelf", x.show(8, 0), -1);
        Check.due("7: stays", x.holds(0), 0);
        Check.due("6: off", x.show(0, -1), 0);
        Check.due("7: nothing", x.holds(0), -1);
        x.row(0, 1, 1);
        Check.due("6: over a row", x.show(0, 1), 1);
        Check.due("7: not the row", x.holds(0), 1);
        x.row(0, 1, 1);
        Check.due("7: over a garment", x.holds(0), 101);
        Check.due("7: no shelf", x.holds(-1), -1);
        Check.due("7: no shelf", x.holds(8), -1);
        Check.dueRefusals("6", x, 5);
    }

    private static void sayings() {
        ClothesRemember x = Check.told("garment 3 2;garment 6 4;garment 5 0;habit 0 3 1 7;habit 0 4 1 6;"
            + "habit 1 4 2 1;habit 1 5 2 4;habit 2 0 1 1;person 0;wear 0 0;wear 1 0");
        x.show(0, 0);
        x.show(1, 1);
        x.show(2, 2);
        x.row(3, 0, 0);
        Check.due("8: habits", x.says(0, 0), 2);
        Check.due("8: worn, but would go once", x.says(0, 1), 1);
        Check.due("8: as a uniform", x.says(0, 3), 1);
        Check.due("8: gown's habits", x.says(1, 0), 2);
        Check.due("8: gown as silk", x.says(1, 4), 10);
        Check.due("8: gown at its hour", x.says(1, 6), 1);
        Check.due("8: rag's step as shirt", x.says(2, 2), 3);
        Check.due("8: rag's step", x.says(2, 5), 3);
        Check.due("8: rag's habits", x.says(2, 0), 1);
        Check.due("8: no shelf", x.says(8, 0), -1);
        Check.due("8: no kind", x.says(4, 7), -1);
        Check.due("8: no kind", x.says(4, -1), -1);
        Check.due("8: a row", x.says(3, 0), -2);
        Check.due("8: nothing", x.says(4, 0), -3);
        Check.due("8: uniform is no gown", x.says(0, 6), -2);
        Check.due("8: gown is no coat", x.says(1, 1), -2);
        Check.dueRefusals("8", x, 3, 3, 1);
    }

    /** Each kind for each kind: the answer with one habit of firm 9 at hour 0, or -2. */
    private static void sayingsOfAll() {
        long[][] due = {
            {1, -2, -2, -2, -2, -2, -2},
            {1, 1, -2, -2, -2, -2, -2},
            {1, -2, 2, -2, -2, -2, -2},
            {1, 1, -2, 1, -2, -2, -2},
            {1, -2, -2, -2, 11, -2, -2},
            {1, -2, 3, -2, -2, 3, -2},
            {1, -2, -2, -2, 11, -2, 1},
        };
        for (int own = 0; own <= 6; own++) {
            ClothesRemember x = new ClothesRemember();
            x.garment(own, 1);
            x.habit(0, 0, 5, 9);
            x.show(0, 0);
            for (int kind = 0; kind <= 6; kind++) {
                Check.due("8: kind " + own + " for " + kind, x.says(0, kind), due[own][kind]);
            }
        }
    }
}
