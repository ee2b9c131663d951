/** Boundary cases of promises 9 to 16. */
public final class PeopleAndGarmentsEdgesTest {
    private static final int MIN = Edges.MIN;
    private static final int MAX = Edges.MAX;
    private static final int HOURS = Edges.HOURS;

    public static void main(String[] args) throws Exception {
        Edges.run(PeopleAndGarmentsEdgesTest.class);
    }

    // ---- promise 9

    static void promise09WillsAre0To9() {
        for (int will = 0; will <= 9; will++) {
            ClothesRemember x = new ClothesRemember();
            Check.due("person(" + will + ")", x.person(will), 0);
            Check.due("the will", x.personOf(0, 0), will);
        }
        Edges.refusedOutside("person(?)", Edges::empty, 0, 9, -6, (x, will) -> x.person(will));
        Edges.refusedOutside("person(?)", Edges::furnished, 0, 9, -6, (x, will) -> x.person(will));
    }

    static void promise09SixAtMost() {
        ClothesRemember x = new ClothesRemember();
        for (int p = 0; p < 6; p++) {
            Check.due("number", x.person(p), p);
            Check.due("how many", x.status(1), p + 1);
        }
        Check.due("the seventh", x.person(0), -7);
        Check.due("how many", x.status(1), 6);
        Edges.refused("the seventh", Edges::full, -7, y -> y.person(0));
        Edges.refused("the seventh", Edges::peopleAlone, -7, y -> y.person(9));
    }

    static void promise09RefusalsInTheirOrder() {
        Edges.refusedOutside("-6 ahead of -7, person(?)", Edges::full, 0, 9, -6, (x, will) -> x.person(will));
    }

    static void promise09OwnDeedsAre0AtFirst() {
        ClothesRemember y = new ClothesRemember();
        y.image();
        for (int p = 0; p < 6; p++) {
            y.person(9);
            for (int hour = 0; hour < HOURS; hour++) {
                y.own(p, hour, 9);
            }
        }
        y.restore();
        Check.due("anew, behind six that were", y.person(3), 0);
        for (int hour = 0; hour < HOURS; hour++) {
            Check.due("own of a new one at " + hour, y.personOf(0, 10 + hour), 0);
        }
        Check.due("wears nothing", y.personOf(0, 1), 0);
    }

    // ---- promise 10

    static void promise10KindsAre0To6() {
        for (int kind = 0; kind <= 6; kind++) {
            ClothesRemember x = new ClothesRemember();
            Check.due("garment(" + kind + ", 0)", x.garment(kind, 0), 0);
            Check.due("the kind", x.garmentOf(0, 0), kind);
        }
        Edges.refusedOutside("garment(?, 0)", Edges::empty, 0, 6, -1, (x, kind) -> x.garment(kind, 0));
        Edges.refusedOutside("garment(?, 9)", Edges::furnished, 0, 6, -1, (x, kind) -> x.garment(kind, 9));
    }

    static void promise10AIs0To9() {
        for (int a = 0; a <= 9; a++) {
            ClothesRemember x = new ClothesRemember();
            Check.due("garment(6, " + a + ")", x.garment(6, a), 0);
            Check.due("its a", x.garmentOf(0, 1), a);
        }
        Edges.refusedOutside("garment(0, ?)", Edges::empty, 0, 9, -6, (x, a) -> x.garment(0, a));
        Edges.refusedOutside("garment(6, ?)", Edges::furnished, 0, 9, -6, (x, a) -> x.garment(6, a));
    }

    static void promise10EightAtMost() {
        ClothesRemember x = new ClothesRemember();
        for (int g = 0; g < 8; g++) {
            Check.due("number", x.garment(0, 0), g);
            Check.due("how many", x.status(0), g + 1);
        }
        Check.due("the ninth", x.garment(0, 0), -7);
        Check.due("how many", x.status(0), 8);
        Edges.refused("the ninth", Edges::full, -7, y -> y.garment(0, 0));
        Edges.refused("the ninth", Edges::garmentsAlone, -7, y -> y.garment(6, 9));
    }

    static void promise10RefusalsInTheirOrder() {
        Edges.refused("-1 ahead of -6", Edges::furnished, -1, x -> x.garment(7, 10));
        Edges.refused("-1 ahead of -7", Edges::full, -1, x -> x.garment(-1, 0));
        Edges.refused("-6 ahead of -7", Edges::full, -6, x -> x.garment(0, 10));
        Edges.refused("-6 ahead of -7", Edges::full, -6, x -> x.garment(6, -1));
        Edges.refused("-1 ahead of -6 and -7", Edges::full, -1, x -> x.garment(7, -1));
    }

    static void promise10NobodyWearsItAndItHasNoHabitAtFirst() {
        ClothesRemember y = new ClothesRemember();
        y.person(0);
        y.image();
        for (int g = 0; g < 8; g++) {
            y.garment(4, 9);
            y.wear(g, 0);
            for (int hour = 0; hour < HOURS; hour++) {
                y.habit(g, hour, 9, 9);
            }
        }
        y.restore();
        Check.due("anew, behind eight that were", y.garment(0, 0), 0);
        Check.due("nobody wears it", y.garmentOf(0, 2), 0);
        for (int hour = 0; hour < HOURS; hour++) {
            Check.due("habit at " + hour, y.garmentOf(0, 10 + hour), 0);
            Check.due("firm at " + hour, y.garmentOf(0, 30 + hour), 0);
        }
    }

    // ---- promise 11

    static void promise11HoursAre0To11() {
        for (int hour = 0; hour < HOURS; hour++) {
            ClothesRemember x = Edges.peopleAlone();
            x.own(3, 3, 0);
            Check.due("own(3, " + hour + ", 9)", x.own(3, hour, 9), 0);
            for (int other = 0; other < HOURS; other++) {
                Check.due("at " + other, x.personOf(3, 10 + other), other == hour ? 9 : 0);
            }
        }
        Edges.refusedOutside("own(0, ?, 1)", Edges::furnished, 0, 11, -6, (x, hour) -> x.own(0, hour, 1));
    }

    static void promise11DeedsAre0To9() {
        ClothesRemember x = Edges.peopleAlone();
        int before = x.personOf(0, 10);
        for (int d : new int[] {0, 1, 9, 8, 0}) {
            Check.due("what it was", x.own(0, 0, d), before);
            Check.due("what it is", x.personOf(0, 10), d);
            before = d;
        }
        Edges.refusedOutside("own(0, 0, ?)", Edges::furnished, 0, 9, -6, (y, d) -> y.own(0, 0, d));
    }

    static void promise11PeopleAreThoseThere() {
        ClothesRemember x = Edges.full();
        Check.due("the sixth of six", x.own(5, 0, 4), 0);
        Check.due("the first of six", x.own(0, 0, 4), 0);
        Edges.refusedOutside("own(?, 0, 1) of six", Edges::full, 0, 5, -1, (y, p) -> y.own(p, 0, 1));
        Edges.refusedOutside("own(?, 0, 1) of two", Edges::furnished, 0, 1, -1, (y, p) -> y.own(p, 0, 1));
        Edges.refusedOutside("own(?, 0, 1) of none", Edges::garmentsAlone, 0, -1, -1, (y, p) -> y.own(p, 0, 1));
    }

    static void promise11RefusalsInTheirOrder() {
        Edges.refused("-1 ahead of -6, the hour", Edges::furnished, -1, x -> x.own(2, 12, 0));
        Edges.refused("-1 ahead of -6, the deed", Edges::furnished, -1, x -> x.own(-1, 0, 10));
        Edges.refused("both hour and deed count once", Edges::furnished, -6, x -> x.own(0, 12, 10));
    }

    // ---- promise 12

    static void promise12HoursAre0To11() {
        for (int hour = 0; hour < HOURS; hour++) {
            ClothesRemember x = new ClothesRemember();
            x.garment(0, 0);
            x.garment(0, 0);
            Check.due("habit(1, " + hour + ", 9, 9)", x.habit(1, hour, 9, 9), 0);
            for (int other = 0; other < HOURS; other++) {
                Check.due("habit at " + other, x.garmentOf(1, 10 + other), other == hour ? 9 : 0);
                Check.due("firm at " + other, x.garmentOf(1, 30 + other), other == hour ? 9 : 0);
                Check.due("of the other at " + other, x.garmentOf(0, 10 + other), 0);
            }
        }
        Edges.refusedOutside("habit(0, ?, 1, 1)", Edges::furnished, 0, 11, -6, (x, hour) -> x.habit(0, hour, 1, 1));
    }

    static void promise12DeedsAndHowFirmAre1To9() {
        ClothesRemember x = new ClothesRemember();
        x.garment(0, 0);
        int before = 0;
        for (int[] one : new int[][] {{1, 9}, {9, 1}, {9, 9}, {1, 1}, {5, 5}}) {
            Check.due("what it was", x.habit(0, 0, one[0], one[1]), before);
            Check.due("what it is", x.garmentOf(0, 10), one[0]);
            Check.due("how firm it is", x.garmentOf(0, 30), one[1]);
            before = one[0];
        }
        Edges.refusedOutside("habit(0, 0, ?, 1)", Edges::furnished, 1, 9, -6, (y, d) -> y.habit(0, 0, d, 1));
        Edges.refusedOutside("habit(0, 0, 1, ?)", Edges::furnished, 1, 9, -6, (y, f) -> y.habit(0, 0, 1, f));
        Edges.refused("both -1", Edges::furnished, -6, y -> y.habit(0, 0, -1, -1));
        Edges.refused("both 10", Edges::furnished, -6, y -> y.habit(0, 0, 10, 10));
    }

    static void promise12Both0IsNone() {
        ClothesRemember x = new ClothesRemember();
        x.garment(0, 0);
        x.habit(0, 11, 9, 9);
        Check.due("what it was", x.habit(0, 11, 0, 0), 9);
        Check.due("none", x.garmentOf(0, 21), 0);
        Check.due("not firm", x.garmentOf(0, 41), 0);
        Check.due("none again", x.habit(0, 11, 0, 0), 0);
        Check.due("no habits", x.status(2), 0);
    }

    static void promise12OneOfBoth0() {
        Edges.refused("deed 0", Edges::furnished, -6, x -> x.habit(0, 0, 0, 1));
        Edges.refused("deed 0, firm 9", Edges::furnished, -6, x -> x.habit(0, 1, 0, 9));
        Edges.refused("firm 0", Edges::furnished, -6, x -> x.habit(0, 0, 1, 0));
        Edges.refused("firm 0, deed 9", Edges::furnished, -6, x -> x.habit(0, 1, 9, 0));
        Edges.refused("deed 0, firm below", Edges::furnished, -6, x -> x.habit(0, 0, 0, -1));
        Edges.refused("firm 0, deed above", Edges::furnished, -6, x -> x.habit(0, 0, 10, 0));
    }

    static void promise12GarmentsAreThoseThere() {
        ClothesRemember x = Edges.garmentsAlone();
        Check.due("the eighth of eight", x.habit(7, 11, 4, 4), 0);
        Check.due("the first of eight", x.habit(0, 11, 4, 4), 0);
        Edges.refusedOutside("habit(?, 0, 1, 1) of eight", Edges::full, 0, 7, -1, (y, g) -> y.habit(g, 0, 1, 1));
        Edges.refusedOutside("habit(?, 0, 1, 1) of four", Edges::furnished, 0, 3, -1, (y, g) -> y.habit(g, 0, 1, 1));
        Edges.refusedOutside("habit(?, 0, 0, 0) of none", Edges::peopleAlone, 0, -1, -1,
            (y, g) -> y.habit(g, 0, 0, 0));
    }

    static void promise12RefusalsInTheirOrder() {
        Edges.refused("-1 ahead of -6, the hour", Edges::furnished, -1, x -> x.habit(4, 12, 1, 1));
        Edges.refused("-1 ahead of -6, the deed", Edges::furnished, -1, x -> x.habit(-1, 0, 10, 1));
        Edges.refused("-1 ahead of -6, how firm", Edges::furnished, -1, x -> x.habit(4, 0, 1, 10));
        Edges.refused("-1 ahead of -6, one of both 0", Edges::furnished, -1, x -> x.habit(4, 0, 1, 0));
        Edges.refused("all of -6 count once", Edges::furnished, -6, x -> x.habit(0, 12, 10, 0));
    }

    // ---- promise 13

    static void promise13GarmentsAreThoseThere() {
        ClothesRemember x = Edges.full();
        Check.due("the eighth of eight", x.wear(7, 5), 2);
        Check.due("the first of eight", x.wear(0, 5), -1);
        Check.due("both", x.personOf(5, 1), 129 + 64);
        Edges.refusedOutside("wear(?, 0) of eight", Edges::full, 0, 7, -11, (y, g) -> y.wear(g, 0));
        Edges.refusedOutside("wear(?, NONE) of eight", Edges::full, 0, 7, -11, (y, g) -> y.wear(g, -1));
        Edges.refusedOutside("wear(?, 0) of none", Edges::peopleAlone, 0, -1, -11, (y, g) -> y.wear(g, 0));
    }

    static void promise13PeopleAreThoseThereOrNone() {
        ClothesRemember x = Edges.full();
        Check.due("the sixth", x.wear(1, 5), 0);
        Check.due("the first", x.wear(1, 0), 5);
        Check.due("nobody", x.wear(1, -1), 0);
        Check.due("somebody behind nobody", x.wear(1, 5), -1);
        Edges.refusedOutside("wear(0, ?) of six", Edges::full, -1, 5, -11, (y, p) -> y.wear(0, p));
        Edges.refusedOutside("wear(0, ?) of two", Edges::furnished, -1, 1, -11, (y, p) -> y.wear(0, p));
        Edges.refusedOutside("wear(0, ?) of none", Edges::garmentsAlone, -1, -1, -11, (y, p) -> y.wear(0, p));
        Check.due("nobody where nobody is", Edges.garmentsAlone().wear(7, -1), -1);
    }

    static void promise13TwoWrongsCountOnce() {
        Edges.refused("neither garment nor one", Edges::furnished, -11, x -> x.wear(4, 2));
        Edges.refused("neither garment nor one", Edges::empty, -11, x -> x.wear(0, -2));
    }

    static void promise13OneMayWearAllEight() {
        ClothesRemember x = Edges.full();
        for (int g = 0; g < 8; g++) {
            x.wear(g, 3);
        }
        Check.due("all", x.personOf(3, 1), 255);
        Check.due("worn", x.status(3), 8);
        Check.due("the same again", x.wear(0, 3), 3);
    }

    // ---- promise 14

    static void promise14WillsAre0To9() {
        ClothesRemember x = Edges.peopleAlone();
        int before = 5;
        for (int v : new int[] {0, 9, 1, 8, 0}) {
            Check.due("what it was", x.will(5, v), before);
            Check.due("what it is", x.personOf(5, 0), v);
            before = v;
        }
        Check.due("of that one alone", x.personOf(4, 0), 4);
        Edges.refusedOutside("will(0, ?)", Edges::furnished, 0, 9, -6, (y, v) -> y.will(0, v));
    }

    static void promise14PeopleAreThoseThere() {
        Check.due("the first of six", Edges.full().will(0, 0), 9);
        Check.due("the sixth of six", Edges.full().will(5, 0), 4);
        Edges.refusedOutside("will(?, 0) of six", Edges::full, 0, 5, -1, (x, p) -> x.will(p, 0));
        Edges.refusedOutside("will(?, 0) of two", Edges::furnished, 0, 1, -1, (x, p) -> x.will(p, 0));
        Edges.refusedOutside("will(?, 0) of none", Edges::garmentsAlone, 0, -1, -1, (x, p) -> x.will(p, 0));
    }

    static void promise14RefusalsInTheirOrder() {
        Edges.refused("-1 ahead of -6", Edges::furnished, -1, x -> x.will(2, 10));
        Edges.refused("-1 ahead of -6", Edges::empty, -1, x -> x.will(0, -1));
    }

    // ---- promise 15

    static void promise15GarmentsAreThoseThere() {
        Check.due("the first of eight", Edges.full().garmentOf(0, 1), 9);
        Check.due("the eighth of eight", Edges.full().garmentOf(7, 1), 2);
        Edges.refusedOutside("garmentOf(?, 0) of eight", Edges::full, 0, 7, -5, (x, g) -> x.garmentOf(g, 0));
        Edges.refusedOutside("garmentOf(?, 2) of four", Edges::furnished, 0, 3, -5, (x, g) -> x.garmentOf(g, 2));
        Edges.refusedOutside("garmentOf(?, 0) of none", Edges::peopleAlone, 0, -1, -5, (x, g) -> x.garmentOf(g, 0));
    }

    static void promise15WhatIs0To2And10To21And30To41And50To61() {
        ClothesRemember x = new ClothesRemember();
        x.garment(2, 8);
        for (int hour = 0; hour < HOURS; hour++) {
            x.habit(0, hour, hour % 9 + 1, 9 - hour % 9);
        }
        for (int hour = 0; hour < HOURS; hour++) {
            Check.due("habit at " + hour, x.garmentOf(0, 10 + hour), hour % 9 + 1);
            Check.due("firm at " + hour, x.garmentOf(0, 30 + hour), 9 - hour % 9);
            Check.due("pull at " + hour, x.garmentOf(0, 50 + hour), 9 - hour % 9);
        }
        Edges.refusedOutside("garmentOf(3, ?)", Edges::furnished, 0, 2, -5, (y, what) -> y.garmentOf(3, what));
        for (int[] range : new int[][] {{3, 9}, {22, 29}, {42, 49}, {62, 70}}) {
            for (int what = range[0]; what <= range[1]; what++) {
                int other = what;
                Edges.refused("garmentOf(3, " + what + ")", Edges::furnished, -5, y -> y.garmentOf(3, other));
            }
        }
    }

    static void promise15TwoWrongsCountOnce() {
        Edges.refused("no such one, another what", Edges::furnished, -5, x -> x.garmentOf(4, 3));
    }

    static void promise15WhoWearsItAnd1() {
        ClothesRemember x = Edges.full();
        Check.due("nobody", x.garmentOf(0, 2), 0);
        Check.due("the first", x.garmentOf(1, 2), 1);
        Check.due("the sixth", x.garmentOf(6, 2), 6);
    }

    static void promise15NothingIsChanged() {
        Edges.asked("garmentOf(0, 50)", Edges::furnished, 12, x -> x.garmentOf(0, 50));
        Edges.asked("garmentOf(1, 61)", Edges::furnished, 0, x -> x.garmentOf(1, 61));
    }

    // ---- promise 16

    static void promise16PeopleAreThoseThere() {
        Check.due("the first of six", Edges.full().personOf(0, 0), 9);
        Check.due("the sixth of six", Edges.full().personOf(5, 0), 4);
        Edges.refusedOutside("personOf(?, 0) of six", Edges::full, 0, 5, -5, (x, p) -> x.personOf(p, 0));
        Edges.refusedOutside("personOf(?, 1) of two", Edges::furnished, 0, 1, -5, (x, p) -> x.personOf(p, 1));
        Edges.refusedOutside("personOf(?, 0) of none", Edges::garmentsAlone, 0, -1, -5, (x, p) -> x.personOf(p, 0));
    }

    static void promise16WhatIs0To1And10To21() {
        ClothesRemember x = Edges.peopleAlone();
        for (int hour = 0; hour < HOURS; hour++) {
            x.own(2, hour, (hour + 4) % 10);
        }
        for (int hour = 0; hour < HOURS; hour++) {
            Check.due("own at " + hour, x.personOf(2, 10 + hour), (hour + 4) % 10);
        }
        Edges.refusedOutside("personOf(1, ?)", Edges::furnished, 0, 1, -5, (y, what) -> y.personOf(1, what));
        for (int[] range : new int[][] {{2, 9}, {22, 31}, {50, 52}}) {
            for (int what = range[0]; what <= range[1]; what++) {
                int other = what;
                Edges.refused("personOf(1, " + what + ")", Edges::furnished, -5, y -> y.personOf(1, other));
            }
        }
    }

    static void promise16TwoWrongsCountOnce() {
        Edges.refused("no such one, another what", Edges::furnished, -5, x -> x.personOf(2, 2));
    }

    static void promise16FromNoGarmentsToAllEight() {
        ClothesRemember x = Edges.full();
        Check.due("one", x.personOf(0, 1), 2);
        for (int g = 0; g < 8; g++) {
            x.wear(g, 5);
        }
        Check.due("none", x.personOf(0, 1), 0);
        Check.due("all", x.personOf(5, 1), 255);
        x.wear(0, -1);
        Check.due("all but the first", x.personOf(5, 1), 254);
        x.wear(7, 0);
        Check.due("the last", x.personOf(0, 1), 128);
        Check.due("without garments", Edges.peopleAlone().personOf(5, 1), 0);
    }

    static void promise16NothingIsChanged() {
        Edges.asked("personOf(1, 21)", Edges::furnished, 9, x -> x.personOf(1, 21));
        Edges.asked("personOf(0, 1)", Edges::furnished, 1, x -> x.personOf(0, 1));
    }
}
