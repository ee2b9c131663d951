import java.util.ArrayList;
import java.util.List;

/** Promises 41 and 42: moves against the same bodies as Java's own overriding has them, and the trace. */
public final class MovesTest {
    private static final int[] XS = {0, 1, -1, 17, -1000003, 715827883, Integer.MAX_VALUE, Integer.MIN_VALUE};

    public static void main(String[] args) {
        movesByHand();
        movesOfAllKinds();
        noMoves();
        Check.end("MovesTest");
    }

    private static void movesByHand() {
        ClothesRemember x = Check.told("garment 0 2;garment 1 3;garment 2 4;garment 3 5;garment 4 6;garment 5 7;"
            + "garment 6 8");
        Check.due("41: garment sits", x.act(0, 0, 10), 10);
        Check.due("42: its body", x.trace(0), 10);
        Check.due("41: coat sits", x.act(1, 0, 10), 14);
        Check.due("42: coat's", traceOf(x), 20, 10);
        Check.due("41: shirt pulls", x.act(2, 1, 10), 72);
        Check.due("42: shirt's", traceOf(x), 30, 11, 10);
        Check.due("41: uniform pulls", x.act(3, 1, 10), 38);
        Check.due("42: uniform's", traceOf(x), 40, 11, 20, 10);
        Check.due("41: silk sits", x.act(4, 0, 10), 10);
        Check.due("42: silk's", traceOf(x), 51, 10);
        Check.due("41: rag fades", x.act(5, 2, 10), (90 ^ 8) ^ 5);
        Check.due("42: rag's", traceOf(x), 60, 12, 30, 11, 10, 10);
        Check.due("41: gown pulls", x.act(6, 1, 10), 8);
        Check.due("42: gown's", traceOf(x), 71, 11, 70, 51, 10);
        Check.due("41: gown fades", x.act(6, 2, 10), -(8 ^ 4));
        Check.due("42: gown's", traceOf(x), 50, 12, 71, 11, 70, 51, 10, 70, 51, 10);
    }

    private static long[] traceOf(ClothesRemember x) {
        long[] all = new long[Math.min(20, x.status(6))];
        for (int i = 0; i < all.length; i++) {
            all[i] = x.trace(i);
        }
        Check.due("42: none behind the last", x.trace(all.length), -1);
        return all;
    }

    private static void movesOfAllKinds() {
        for (int kind = 0; kind <= 6; kind++) {
            for (int m = 0; m < 8; m += 7) {
                for (int move = 0; move <= 2; move++) {
                    ClothesRemember x = new ClothesRemember();
                    for (int i = 0; i <= m; i++) {
                        x.garment(kind, 9 - i);
                    }
                    for (int with : XS) {
                        Garment garment = made(kind, m, 9 - m);
                        String call = "41: kind " + kind + " move " + move + " x " + with;
                        Check.due(call, x.act(m, move, with), garment.move(move, with));
                        Check.due(call + ": bodies", x.status(6), garment.ran.size());
                        for (int i = 0; i < garment.ran.size(); i++) {
                            Check.due(call + ": trace", x.trace(i), garment.ran.get(i));
                        }
                    }
                }
            }
        }
    }

    private static void noMoves() {
        ClothesRemember x = Check.told("garment 6 1");
        int[][] none = {{1, 0}, {-1, 0}, {0, 3}, {0, -1}, {Integer.MAX_VALUE, Integer.MIN_VALUE}};
        for (int[] call : none) {
            x.act(0, 2, 5);
            Check.due("45: bodies", x.status(6), 10);
            Check.due("42: below", x.trace(-1), -1);
            Check.due("42: behind", x.trace(10), -1);
            Check.due("42: far", x.trace(Integer.MAX_VALUE), -1);
            Check.due("42: far", x.trace(Integer.MIN_VALUE), -1);
            Check.due("41: none such", x.act(call[0], call[1], 5), 0);
            Check.due("42: no trace then", x.trace(0), -1);
            Check.due("45: no bodies then", x.status(6), 0);
        }
        Check.dueRefusals("41", x);
    }

    private static Garment made(int kind, int m, int k) {
        Garment[] all = {new Garment(), new Coat(), new Shirt(), new Uniform(), new Silk(), new Rag(), new Gown()};
        all[kind].m = m;
        all[kind].k = k;
        return all[kind];
    }

    private static class Garment {
        final List<Integer> ran = new ArrayList<>();
        int m;
        int k;

        int move(int move, int x) {
            return move == 0 ? sits(x) : move == 1 ? pulls(x) : fades(x);
        }

        int sits(int x) {
            ran.add(10);
            return x + m;
        }

        int pulls(int x) {
            ran.add(11);
            return sits(x) * 2;
        }

        int fades(int x) {
            ran.add(12);
            return pulls(x) ^ sits(x - k);
        }
    }

    private static class Coat extends Garment {
        @Override
        int sits(int x) {
            ran.add(20);
            return super.sits(x) + k;
        }
    }

    private static class Shirt extends Garment {
        @Override
        int pulls(int x) {
            ran.add(30);
            return super.pulls(x) * 3;
        }
    }

    private static class Uniform extends Coat {
        @Override
        int pulls(int x) {
            ran.add(40);
            return super.pulls(x + 1);
        }
    }

    private static class Silk extends Garment {
        @Override
        int fades(int x) {
            ran.add(50);
            return -super.fades(x);
        }

        @Override
        int sits(int x) {
            ran.add(51);
            return super.sits(x) - m;
        }
    }

    private static class Rag extends Shirt {
        @Override
        int fades(int x) {
            ran.add(60);
            return super.fades(x) ^ 5;
        }
    }

    private static class Gown extends Silk {
        @Override
        int sits(int x) {
            ran.add(70);
            return super.sits(x) * 2;
        }

        @Override
        int pulls(int x) {
            ran.add(71);
            return super.pulls(x - k);
        }
    }
}
