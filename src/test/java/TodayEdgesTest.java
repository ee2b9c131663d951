import java.util.Arrays;

/** Boundary cases of promises 24 to 28. */
public final class TodayEdgesTest {
    private static final int MIN = Edges.MIN;
    private static final int MAX = Edges.MAX;
    private static final int HOURS = Edges.HOURS;

    public static void main(String[] args) throws Exception {
        Edges.run(TodayEdgesTest.class);
    }

    /** So many people, and so many garments of a kind, firm at all hours on habits of 5; nobody wears any. */
    private static ClothesRemember many(int people, int garments) {
        ClothesRemember x = new ClothesRemember();
        for (int p = 0; p < people; p++) {
            x.person(0);
        }
        for (int g = 0; g < garments; g++) {
            x.garment(0, 0);
            for (int hour = 0; hour < HOURS; hour++) {
                x.habit(g, hour, 5, 9);
            }
        }
        return x;
    }

    private static void ownAll(ClothesRemember x, int person, int deed) {
        for (int hour = 0; hour < HOURS; hour++) {
            x.own(person, hour, deed);
        }
    }

    private static void tell(ClothesRemember x, int s, int n, long deed) {
        long[] told = new long[n];
        Arrays.fill(told, deed);
        Check.fill(x, s, 0, told);
    }

    // ---- promise 24

    static void promise24From0To12() {
        ClothesRemember x = many(1, 1);
        Check.due("no hour", x.like(0, 0), 0);
        for (int hour = 0; hour < HOURS; hour++) {
            x.own(0, hour, 5);
            Check.due("own deeds up to " + hour, x.like(0, 0), hour + 1);
        }
    }

    static void promise24ZeroAside() {
        ClothesRemember x = new ClothesRemember();
        x.person(0);
        x.garment(0, 0);
        Check.due("neither a habit nor an own deed", x.like(0, 0), 0);
        ownAll(x, 0, 5);
        Check.due("no habit", x.like(0, 0), 0);
        ClothesRemember y = many(1, 1);
        Check.due("no own deed", y.like(0, 0), 0);
        ownAll(y, 0, 4);
        Check.due("another deed", y.like(0, 0), 0);
    }

    static void promise24WhateverOneWearsOrDoes() {
        ClothesRemember x = many(2, 2);
        ownAll(x, 0, 5);
        ownAll(x, 1, 4);
        x.wear(0, 1);
        Check.due("by own deeds, not by what is done", x.like(0, 1), 0);
        Check.due("by habits, worn by another", x.like(0, 0), 12);
    }

    static void promise24ThoseThere() {
        ClothesRemember x = many(6, 8);
        ownAll(x, 5, 5);
        Check.due("the last of both", x.like(7, 5), 12);
        Check.due("the first of both", x.like(0, 0), 0);
        Edges.refusedOutside("like(?, 0) of eight", Edges::full, 0, 7, -1, (y, g) -> y.like(g, 0));
        Edges.refusedOutside("like(0, ?) of six", Edges::full, 0, 5, -1, (y, p) -> y.like(0, p));
        Edges.refusedOutside("like(?, 0) of none", Edges::peopleAlone, 0, -1, -1, (y, g) -> y.like(g, 0));
        Edges.refusedOutside("like(0, ?) of none", Edges::garmentsAlone, 0, -1, -1, (y, p) -> y.like(0, p));
        Edges.refused("neither counts once", Edges::furnished, -1, y -> y.like(4, 2));
        Edges.asked("like(0, 1)", Edges::furnished, 0, y -> y.like(0, 1));
    }

    // ---- promise 25

    static void promise25NoneAtAll() {
        Edges.asked("without people", Edges::garmentsAlone, -1, x -> x.whose(0));
        ClothesRemember x = many(6, 1);
        Check.due("six without own deeds", x.whose(0), -1);
        for (int p = 0; p < 6; p++) {
            ownAll(x, p, 4);
        }
        Check.due("six with another", x.whose(0), -1);
        ClothesRemember y = new ClothesRemember();
        y.person(0);
        y.garment(0, 0);
        Check.due("0 is like nobody's 0", y.whose(0), -1);
    }

    static void promise25OfSeveralTheFirst() {
        ClothesRemember x = many(6, 1);
        for (int p = 5; p >= 0; p--) {
            x.own(p, 11, 5);
            Check.due("alike from " + p + " on", x.whose(0), p);
        }
        x.own(5, 0, 5);
        Check.due("the last is more like", x.whose(0), 5);
        x.own(3, 4, 5);
        Check.due("the fourth just as much", x.whose(0), 3);
    }

    static void promise25GarmentsAreThoseThere() {
        ClothesRemember x = many(1, 8);
        x.own(0, 0, 5);
        Check.due("the first", x.whose(0), 0);
        Check.due("the last", x.whose(7), 0);
        Edges.refusedOutside("whose(?) of eight", Edges::full, 0, 7, -11, (y, g) -> y.whose(g));
        Edges.refusedOutside("whose(?) of four", Edges::furnished, 0, 3, -11, (y, g) -> y.whose(g));
        Edges.refusedOutside("whose(?) of none", Edges::peopleAlone, 0, -1, -11, (y, g) -> y.whose(g));
    }

    // ---- promise 26

    static void promise26FromNobodyToAllSix() {
        for (int people = 0; people <= 6; people++) {
            ClothesRemember x = many(people, 0);
            tell(x, 0, 12, 0);
            Check.due("nothing told of " + people, x.fits(0), (1 << people) - 1);
            tell(x, 0, 12, -1);
            Check.due("nothing seen of " + people, x.fits(0), (1 << people) - 1);
            tell(x, 0, 12, 1);
            Check.due("another deed of " + people, x.fits(0), 0);
        }
    }

    static void promise26EachHourCounts() {
        for (int hour = 0; hour < HOURS; hour++) {
            ClothesRemember x = many(2, 0);
            ownAll(x, 0, 3);
            ownAll(x, 1, 3);
            x.own(1, hour, 4);
            tell(x, 0, 12, 3);
            Check.due("unlike at " + hour, x.fits(0), 1);
            x.set(0, hour, -1);
            Check.due("not seen at " + hour, x.fits(0), 3);
            x.set(0, hour, 4);
            Check.due("so at " + hour, x.fits(0), 2);
        }
    }

    static void promise26AnotherNumberFitsNobody() {
        for (long v : new long[] {-2, 10, 100, MIN, MAX}) {
            ClothesRemember x = many(6, 0);
            Check.fill(x, 0, 3, -1, -1, -1, -1, -1, -1, -1, -1, -1, -1, -1, v);
            Check.due("told " + v, x.fits(0), 0);
        }
        ClothesRemember x = many(1, 0);
        ownAll(x, 0, 9);
        tell(x, 0, 12, 9);
        Check.due("9 is a deed", x.fits(0), 1);
    }

    static void promise26TwelveElementsOrMore() {
        ClothesRemember x = many(1, 0);
        Edges.asked("twelve", Edges::full, 0, y -> y.fits(0));
        for (int n : new int[] {12, 13, 160}) {
            tell(x, 0, n, 0);
            Check.due(n + " elements", x.fits(0), 1);
            if (n > 12) {
                x.set(0, 12, 99);
                x.set(0, n - 1, -2);
                Check.due("elements beyond 12 of " + n, x.fits(0), 1);
            }
        }
        Edges.refused("eleven", Edges::furnished, -5, y -> y.fits(3));
        Edges.refused("three", Edges::furnished, -5, y -> y.fits(4));
        Edges.refused("none", Edges::furnished, -5, y -> y.fits(7));
    }

    static void promise26Refusals() {
        Edges.refusedOutside("fits(?)", Edges::furnished, 0, 7, -1, (x, s) -> x.fits(s));
        Edges.refused("a garment", Edges::furnished, -2, x -> x.fits(1));
        Edges.refused("nothing", Edges::furnished, -3, x -> x.fits(2));
        Edges.asked("fits(0)", Edges::furnished, 0, x -> x.fits(0));
    }

    static void promise26LowestBitsOfAllSorts() {
        for (int sort = 0; sort <= 3; sort++) {
            ClothesRemember x = many(1, 0);
            ownAll(x, 0, 9);
            x.row(0, sort, 12);
            for (int hour = 0; hour < HOURS; hour++) {
                x.set(0, hour, 9 - (1L << 32) * hour);
            }
            Check.due("sort " + sort, x.fits(0), 1);
            x.set(0, 11, 0xFFFFFFFFL);
            Check.due("-1 in sort " + sort, x.fits(0), 1);
            x.set(0, 0, 9 + (1L << 31));
            Check.due("9 and bit 31 in sort " + sort, x.fits(0), sort < 2 ? 1 : 0);
        }
    }

    // ---- promise 27

    static void promise27Nobody() {
        Edges.refused("nobody", Edges::empty, -5, x -> x.watch());
        Edges.refused("garments alone", Edges::garmentsAlone, -5, x -> x.watch());
        Check.due("one is enough", many(1, 0).watch(), 0);
    }

    static void promise27NothingDone() {
        Edges.asked("six who do nothing", () -> many(6, 8), 0, x -> x.watch());
        ClothesRemember x = many(6, 0);
        x.own(5, 11, 1);
        Check.due("one deed, at the last hour", x.watch(), 11);
    }

    static void promise27From1To6UnlikeDeeds() {
        ClothesRemember x = many(6, 0);
        for (int n = 1; n <= 6; n++) {
            int hour = 12 - n;
            for (int p = 0; p < n; p++) {
                x.own(p, hour, 9 - p);
            }
            Check.due(n + " unlike deeds", x.watch(), hour);
        }
        for (int p = 0; p < 6; p++) {
            x.own(p, 11, p + 1);
        }
        Check.due("of several the first", x.watch(), 6);
        x.own(0, 6, 8);
        Check.due("alike ones count once", x.watch(), 11);
        x.own(0, 6, 0);
        Check.due("0 aside", x.watch(), 11);
    }

    // ---- promise 28

    /** Three people, five garments, a row of all deeds, a garment, nothing, a row too short by one. */
    private static ClothesRemember forDressing() {
        ClothesRemember x = many(3, 5);
        x.wear(1, 2);
        x.wear(4, 0);
        x.image();
        x.row(0, 0, 36);
        x.set(0, 12, 5);
        x.show(1, 4);
        x.row(3, 0, 35);
        return x;
    }

    /** Two people, three garments, rows of 24 and of 23. */
    private static ClothesRemember three() {
        ClothesRemember x = many(2, 3);
        x.row(0, 0, 24);
        x.row(3, 0, 23);
        x.show(1, 0);
        return x;
    }

    static void promise28KIs1To4() {
        for (int k = 1; k <= 4; k++) {
            ClothesRemember x = forDressing();
            // the first spoils its day by the fifth garment, the third by the second one while that stays
            Check.due("k " + k, x.dressed(0, k, -1), k == 1 ? 11 : 23);
            Check.due("who wears the last of " + k, x.dressed(0, k, k - 1), 0);
        }
        Edges.refusedOutside("dressed(0, ?, NONE)", TodayEdgesTest::forDressing, 1, 4, -6,
            (x, k) -> x.dressed(0, k, -1));
        Edges.refusedOutside("dressed(0, ?, 0)", TodayEdgesTest::forDressing, 1, 4, -6,
            (x, k) -> x.dressed(0, k, 0));
    }

    static void promise28NoFewerGarmentsThanK() {
        Check.due("three of three", three().dressed(0, 3, -1), 24);
        Edges.refused("four of three", TodayEdgesTest::three, -6, x -> x.dressed(0, 4, -1));
        Edges.refused("four of three, the first", TodayEdgesTest::three, -6, x -> x.dressed(0, 4, 0));
        Edges.refused("one of none", Edges::peopleAlone, -6, x -> x.dressed(0, 1, -1));
        ClothesRemember x = new ClothesRemember();
        x.garment(0, 0);
        x.row(0, 0, 0);
        Check.due("one of one", x.dressed(0, 1, -1), 0);
        Check.due("two of one", x.dressed(0, 2, -1), -6);
    }

    static void promise28IIsNoneTo1LessThanK() {
        for (int k = 1; k <= 4; k++) {
            int of = k;
            for (int i = -1; i < k; i++) {
                int at = i;
                Edges.asked("dressed(0, " + k + ", " + i + ")", TodayEdgesTest::forDressing,
                    forDressing().dressed(0, k, i), x -> x.dressed(0, of, at));
            }
            Edges.refusedOutside("dressed(0, " + k + ", ?)", TodayEdgesTest::forDressing, -1, k - 1, -5,
                (x, i) -> x.dressed(0, of, i));
        }
    }

    static void promise28IIsLookedAtOnlyIfKMayBe() {
        for (int i : new int[] {-2, 0, 1, 4, 5, MIN, MAX}) {
            Edges.refused("k 0, i " + i, TodayEdgesTest::forDressing, -6, x -> x.dressed(0, 0, i));
            Edges.refused("k 5, i " + i, TodayEdgesTest::forDressing, -6, x -> x.dressed(0, 5, i));
            Edges.refused("k -1, i " + i, TodayEdgesTest::forDressing, -6, x -> x.dressed(0, -1, i));
        }
    }

    static void promise28TwelveElementsForEachOfThePeople() {
        for (int people = 0; people <= 6; people++) {
            ClothesRemember x = many(people, 1);
            if (people > 0) {
                x.row(0, 0, 12 * people - 1);
                Check.due("one fewer for " + people, x.dressed(0, 1, -1), -5);
            }
            x.row(0, 0, 12 * people);
            Check.due("enough for " + people, x.dressed(0, 1, -1), 12 * people);
            x.row(0, 0, 160);
            for (int i = 12 * people; i < 160; i++) {
                x.set(0, i, i % 2 == 0 ? 5 : 0);
            }
            Check.due("beyond those of " + people, x.dressed(0, 1, -1), 12 * people);
        }
        Edges.refused("35 for three", TodayEdgesTest::forDressing, -5, x -> x.dressed(3, 1, -1));
        Edges.refused("23 for two", TodayEdgesTest::three, -5, x -> x.dressed(3, 1, 0));
    }

    static void promise28Refusals() {
        Edges.refusedOutside("dressed(?, 1, NONE)", TodayEdgesTest::forDressing, 0, 7, -1,
            (x, s) -> x.dressed(s, 1, -1));
        Edges.refused("a garment", TodayEdgesTest::forDressing, -2, x -> x.dressed(1, 1, -1));
        Edges.refused("nothing", TodayEdgesTest::forDressing, -3, x -> x.dressed(2, 1, -1));
    }

    static void promise28RefusalsInTheirOrder() {
        Edges.refused("-1 ahead of -5", TodayEdgesTest::forDressing, -1, x -> x.dressed(8, 1, 1));
        Edges.refused("-1 ahead of -6", TodayEdgesTest::forDressing, -1, x -> x.dressed(-1, 5, -1));
        Edges.refused("-2 ahead of -5", TodayEdgesTest::forDressing, -2, x -> x.dressed(1, 1, 1));
        Edges.refused("-2 ahead of -6", TodayEdgesTest::forDressing, -2, x -> x.dressed(1, 0, -1));
        Edges.refused("-3 ahead of -5", TodayEdgesTest::forDressing, -3, x -> x.dressed(2, 4, -2));
        Edges.refused("-3 ahead of -6", TodayEdgesTest::forDressing, -3, x -> x.dressed(2, 5, -1));
        Edges.refused("fewer elements ahead of k", TodayEdgesTest::forDressing, -5, x -> x.dressed(3, 5, -1));
        Edges.refused("fewer elements ahead of fewer garments", TodayEdgesTest::three, -5,
            x -> x.dressed(3, 4, -1));
        Edges.refused("fewer elements and no such i count once", TodayEdgesTest::forDressing, -5,
            x -> x.dressed(3, 1, 1));
        Edges.refused("k and fewer garments count once", Edges::peopleAlone, -6, x -> x.dressed(0, 5, -1));
    }

    static void promise28AnyIsNotCounted() {
        ClothesRemember x = many(6, 4);
        tell(x, 0, 72, -1);
        Check.due("nothing told", x.dressed(0, 4, -1), 0);
        for (int i = 0; i < 4; i++) {
            Check.due("nobody wears " + i, x.dressed(0, 4, i), 0);
        }
        x.set(0, 71, 5);
        Check.due("one told", x.dressed(0, 4, -1), 1);
        Check.due("the last garment on the last of people", x.dressed(0, 4, 3), 6);
        Check.due("nobody wears the first", x.dressed(0, 4, 0), 0);
    }

    static void promise28AllDone() {
        ClothesRemember x = many(4, 4);
        tell(x, 0, 48, 5);
        Check.due("all told deeds", x.dressed(0, 4, -1), 48);
        for (int i = 0; i < 4; i++) {
            Check.due("of several ways the first: " + i, x.dressed(0, 4, i), i + 1);
        }
        Check.due("three garments for four", x.dressed(0, 3, -1), 36);
        Check.due("one garment for four", x.dressed(0, 1, -1), 12);
        Check.due("on the first", x.dressed(0, 1, 0), 1);
    }

    /** Each way of having four garments on one or on nobody is the only one by which all that is told is done. */
    static void promise28EachWayOfAll() {
        for (int way = 0; way < 16; way++) {
            ClothesRemember x = new ClothesRemember();
            x.person(0);
            tell(x, 0, 12, -1);
            for (int g = 0; g < 4; g++) {
                x.garment(0, 0);
                x.habit(g, 2 * g, g + 1, 1);
                x.set(0, 2 * g, (way >> g & 1) != 0 ? g + 1 : 0);
            }
            Check.due("way " + way, x.dressed(0, 4, -1), 4);
            for (int i = 0; i < 4; i++) {
                Check.due("way " + way + ", garment " + i, x.dressed(0, 4, i), way >> i & 1);
            }
        }
    }

    static void promise28TheLastWayOfAll() {
        ClothesRemember x = new ClothesRemember();
        for (int p = 0; p < 6; p++) {
            x.person(0);
        }
        tell(x, 0, 72, -1);
        for (int g = 0; g < 4; g++) {
            x.garment(0, 0);
            x.habit(g, 8 + g, g + 1, 1);
            x.set(0, 68 + g, g + 1);
        }
        Check.due("all four", x.dressed(0, 4, -1), 4);
        for (int i = 0; i < 4; i++) {
            Check.due("on the sixth: " + i, x.dressed(0, 4, i), 6);
        }
    }

    static void promise28NoneFirst() {
        // both ways are as good: nobody comes ahead of the first of the people, also where he wears it now
        ClothesRemember x = many(2, 2);
        tell(x, 0, 24, -1);
        x.set(0, 0, 5);
        x.wear(0, 0);
        Check.due("one told", x.dressed(0, 2, -1), 1);
        Check.due("nobody wears the first", x.dressed(0, 2, 0), 0);
        Check.due("the second garment does it", x.dressed(0, 2, 1), 1);
        Check.due("of one garment", x.dressed(0, 1, 0), 1);
    }

    static void promise28AllOthersStayAsTheyAre() {
        ClothesRemember x = many(2, 5);
        tell(x, 0, 24, 5);
        x.wear(4, 1);
        Check.due("the fifth is worn", x.dressed(0, 4, -1), 24);
        Check.due("the first three on nobody", x.dressed(0, 4, 2), 0);
        Check.due("the fourth on the first", x.dressed(0, 4, 3), 1);
        x.wear(4, -1);
        Check.due("it is not", x.dressed(0, 4, -1), 24);
        Check.due("the third on the first", x.dressed(0, 4, 2), 1);
        Check.due("the fourth on the second", x.dressed(0, 4, 3), 2);
    }

    static void promise28ToldDeedsOf0() {
        ClothesRemember x = many(2, 1);
        tell(x, 0, 24, 0);
        Check.due("nothing told and nothing done", x.dressed(0, 1, -1), 24);
        x.wear(0, 1);
        Check.due("it is taken off", x.dressed(0, 1, 0), 0);
    }

    static void promise28LowestBitsOfLongs() {
        ClothesRemember x = many(1, 1);
        Check.fill(x, 0, 3, (1L << 32) + 5, 5, 0xFFFFFFFFL, 5 + (1L << 31), -1, -1, -1, -1, -1, -1, -1, (1L << 63) + 5);
        Check.due("three of four told", x.dressed(0, 1, -1), 3);
    }
}
