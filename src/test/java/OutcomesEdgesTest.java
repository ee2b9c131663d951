/** Boundary cases of promises 29 to 36. */
public final class OutcomesEdgesTest {
    private static final int MIN = Edges.MIN;
    private static final int MAX = Edges.MAX;
    private static final int HOURS = Edges.HOURS;

    public static void main(String[] args) throws Exception {
        Edges.run(OutcomesEdgesTest.class);
    }

    /** One garment with habits of 5 at all hours, all just as firm (0: no habits). */
    private static ClothesRemember garment(int kind, int a, int firm) {
        ClothesRemember x = new ClothesRemember();
        x.garment(kind, a);
        accustom(x, 0, firm == 0 ? 0 : 5, firm);
        return x;
    }

    private static void accustom(ClothesRemember x, int garment, int deed, int firm) {
        for (int hour = 0; hour < HOURS; hour++) {
            x.habit(garment, hour, deed, firm);
        }
    }

    // ---- promise 29

    static void promise29From0To9Times() {
        for (int firm = 0; firm <= 9; firm++) {
            Check.due("garment " + firm, garment(0, 0, firm).washed(0, 0), (firm + 2) / 3);
            Check.due("coat " + firm, garment(1, 9, firm).washed(0, 11), firm);
            Check.due("uniform " + firm, garment(3, 9, firm).washed(0, 11), firm);
            Check.due("shirt " + firm, garment(2, 0, firm).washed(0, 0), (firm + 4) / 5);
            Check.due("rag " + firm, garment(5, 0, firm).washed(0, 0), (firm + 1) / 2);
            Check.due("gown " + firm, garment(6, 0, firm).washed(0, 0), firm == 0 ? 0 : 1);
        }
    }

    static void promise29SilkNeverButWithoutAHabit() {
        Check.due("no habit", garment(4, 0, 0).washed(0, 0), 0);
        for (int firm = 1; firm <= 9; firm++) {
            Check.due("silk " + firm, garment(4, 0, firm).washed(0, 0), -1);
        }
    }

    static void promise29HoursAre0To11() {
        for (int hour = 0; hour < HOURS; hour++) {
            ClothesRemember x = garment(1, 0, 9);
            x.habit(0, hour, 4, 2);
            for (int asked = 0; asked < HOURS; asked++) {
                Check.due("at " + asked, x.washed(0, asked), asked == hour ? 2 : 9);
            }
        }
        Edges.refusedOutside("washed(0, ?)", Edges::furnished, 0, 11, -16, (x, hour) -> x.washed(0, hour));
    }

    static void promise29GarmentsAreThoseThere() {
        Edges.asked("the first of eight", Edges::garmentsAlone, 3, x -> x.washed(0, 0));
        Edges.asked("the eighth of eight", Edges::garmentsAlone, 3, x -> x.washed(7, 0));
        Edges.refusedOutside("washed(?, 0) of eight", Edges::full, 0, 7, -11, (x, g) -> x.washed(g, 0));
        Edges.refusedOutside("washed(?, 0) of four", Edges::furnished, 0, 3, -11, (x, g) -> x.washed(g, 0));
        Edges.refusedOutside("washed(?, 0) of none", Edges::peopleAlone, 0, -1, -11, (x, g) -> x.washed(g, 0));
    }

    static void promise29RefusalsInTheirOrder() {
        Edges.refused("-11 ahead of -16", Edges::furnished, -11, x -> x.washed(4, 12));
        Edges.refused("-11 ahead of -16", Edges::empty, -11, x -> x.washed(-1, -1));
    }

    // ---- promise 30

    static void promise30WashesAre0To9() {
        for (int firm = 1; firm <= 9; firm++) {
            for (int w = 0; w <= 9; w++) {
                Check.due("coat " + firm + " behind " + w, garment(1, 0, firm).kept(0, w), w < firm ? 12 : 0);
                Check.due("rag " + firm + " behind " + w, garment(5, 0, firm).kept(0, w), 2 * w < firm ? 12 : 0);
                Check.due("silk " + firm + " behind " + w, garment(4, 0, firm).kept(0, w), 12);
            }
        }
        Edges.refusedOutside("kept(0, ?)", Edges::furnished, 0, 9, -6, (x, w) -> x.kept(0, w));
    }

    static void promise30From0To12Left() {
        Check.due("none", garment(0, 0, 0).kept(0, 0), 0);
        Check.due("none", garment(0, 0, 0).kept(0, 9), 0);
        ClothesRemember x = garment(1, 0, 0);
        for (int hour = 0; hour < HOURS; hour++) {
            x.habit(0, hour, 5, Math.min(9, hour + 1));
        }
        for (int w = 0; w <= 8; w++) {
            Check.due("left behind " + w, x.kept(0, w), 12 - w);
        }
        Check.due("left behind 9", x.kept(0, 9), 0);
    }

    static void promise30GarmentsAreThoseThere() {
        Edges.asked("the first of eight", Edges::garmentsAlone, 1, x -> x.kept(0, 0));
        Edges.asked("the eighth of eight", Edges::garmentsAlone, 0, x -> x.kept(7, 9));
        Edges.refusedOutside("kept(?, 0) of eight", Edges::full, 0, 7, -1, (x, g) -> x.kept(g, 0));
        Edges.refusedOutside("kept(?, 0) of four", Edges::furnished, 0, 3, -1, (x, g) -> x.kept(g, 0));
        Edges.refusedOutside("kept(?, 0) of none", Edges::peopleAlone, 0, -1, -1, (x, g) -> x.kept(g, 0));
    }

    static void promise30RefusalsInTheirOrder() {
        Edges.refused("-1 ahead of -6", Edges::furnished, -1, x -> x.kept(4, 10));
        Edges.refused("-1 ahead of -6", Edges::empty, -1, x -> x.kept(-1, -1));
    }

    // ---- promise 31

    /** Two garments with habits at all hours. */
    private static ClothesRemember pair(int kind, int deed, int firm, int otherKind, int otherDeed, int otherFirm) {
        ClothesRemember x = new ClothesRemember();
        x.garment(kind, 0);
        x.garment(otherKind, 0);
        accustom(x, 0, deed, firm);
        accustom(x, 1, otherDeed, otherFirm);
        return x;
    }

    static void promise31LineFrom0To12() {
        Check.due("the same deeds", pair(0, 5, 9, 0, 5, 1).two(0, 1, 0), 0);
        Check.due("unlike deeds", pair(0, 5, 9, 0, 4, 1).two(0, 1, 0), 12);
        Check.due("the first has none", pair(0, 0, 0, 0, 4, 1).two(0, 1, 0), 0);
        Check.due("the second has none", pair(0, 5, 9, 0, 0, 0).two(0, 1, 0), 0);
        Check.due("neither has any", pair(0, 0, 0, 0, 0, 0).two(0, 1, 0), 0);
        for (int hour = 0; hour < HOURS; hour++) {
            ClothesRemember x = pair(0, 5, 9, 0, 5, 1);
            x.habit(1, hour, 6, 1);
            Check.due("unlike at " + hour, x.two(0, 1, 0), 1);
        }
    }

    static void promise31PatchFrom0To12() {
        Check.due("the first pulls more", pair(0, 5, 2, 0, 4, 1).two(0, 1, 1), 12);
        Check.due("both alike", pair(0, 5, 1, 0, 4, 1).two(0, 1, 1), 0);
        Check.due("the second pulls more", pair(0, 5, 1, 0, 4, 2).two(0, 1, 1), 0);
        Check.due("the second has none", pair(0, 5, 1, 0, 0, 0).two(0, 1, 1), 12);
        Check.due("the first has none", pair(0, 0, 0, 0, 4, 1).two(0, 1, 1), 0);
        Check.due("neither has any", pair(0, 0, 0, 0, 0, 0).two(0, 1, 1), 0);
        for (int hour = 0; hour < HOURS; hour++) {
            ClothesRemember x = pair(0, 5, 5, 0, 4, 5);
            x.habit(0, hour, 5, 6);
            Check.due("more at " + hour, x.two(0, 1, 1), 1);
        }
    }

    static void promise31PatchAlsoOfTheSameHabit() {
        Check.due("the same, pulled more", pair(0, 5, 2, 0, 5, 1).two(0, 1, 1), 12);
        Check.due("the same, pulled alike", pair(0, 5, 2, 0, 5, 2).two(0, 1, 1), 0);
    }

    static void promise31PatchOfAPullOf0() {
        Check.due("a rag of 1 onto nothing", pair(5, 5, 1, 0, 0, 0).two(0, 1, 1), 0);
        Check.due("a rag of 2 onto nothing", pair(5, 5, 2, 0, 0, 0).two(0, 1, 1), 12);
        Check.due("a garment onto a rag of 1", pair(0, 5, 1, 5, 4, 1).two(0, 1, 1), 12);
        Check.due("a garment onto a rag of 2", pair(0, 5, 1, 5, 4, 2).two(0, 1, 1), 0);
    }

    static void promise31PatchOfUniforms() {
        // each counts the other as well: 1 + 2 and 2 + 2; the third makes them 4 and 5
        ClothesRemember x = pair(3, 5, 1, 3, 5, 2);
        Check.due("the first", x.two(0, 1, 1), 0);
        Check.due("the second", x.two(1, 0, 1), 12);
        ClothesRemember y = pair(3, 5, 1, 0, 4, 3);
        Check.due("2 onto 3", y.two(0, 1, 1), 0);
        y.garment(3, 0);
        accustom(y, 2, 5, 1);
        Check.due("3 onto 3", y.two(0, 1, 1), 0);
        y.garment(3, 0);
        accustom(y, 3, 5, 1);
        Check.due("4 onto 3", y.two(0, 1, 1), 12);
    }

    static void promise31WhatIs0Or1() {
        Edges.asked("two(0, 1, 0)", Edges::furnished, 0, x -> x.two(0, 1, 0));
        Edges.asked("two(0, 1, 1)", Edges::furnished, 2, x -> x.two(0, 1, 1));
        Edges.refusedOutside("two(0, 1, ?)", Edges::furnished, 0, 1, -5, (x, what) -> x.two(0, 1, what));
    }

    static void promise31TheSame() {
        for (int what = 0; what <= 1; what++) {
            int of = what;
            Edges.refused("two(0, 0, " + what + ")", Edges::furnished, -6, x -> x.two(0, 0, of));
            Edges.refused("two(7, 7, " + what + ")", Edges::full, -6, x -> x.two(7, 7, of));
        }
    }

    static void promise31GarmentsAreThoseThere() {
        Edges.asked("the last and the first", Edges::garmentsAlone, 0, x -> x.two(7, 0, 0));
        Edges.asked("the first and the last", Edges::garmentsAlone, 0, x -> x.two(0, 7, 1));
        Edges.refusedOutside("two(?, 0, 0) of eight", Edges::full, 0, 7, -1, (x, g) -> x.two(g, 0, 0));
        Edges.refusedOutside("two(0, ?, 1) of eight", Edges::full, 0, 7, -1, (x, g) -> x.two(0, g, 1));
        Edges.refusedOutside("two(?, 0, 0) of four", Edges::furnished, 0, 3, -1, (x, g) -> x.two(g, 0, 0));
        Edges.refusedOutside("two(0, ?, 0) of four", Edges::furnished, 0, 3, -1, (x, g) -> x.two(0, g, 0));
        Edges.refused("of none", Edges::peopleAlone, -1, x -> x.two(0, 1, 0));
        Edges.refused("neither counts once", Edges::furnished, -1, x -> x.two(4, 5, 0));
    }

    static void promise31RefusalsInTheirOrder() {
        Edges.refused("-1 ahead of -5", Edges::furnished, -1, x -> x.two(4, 0, 2));
        Edges.refused("-1 ahead of -6", Edges::furnished, -1, x -> x.two(4, 4, 0));
        Edges.refused("-5 ahead of -6", Edges::furnished, -5, x -> x.two(1, 1, 2));
        Edges.refused("-1 ahead of -5 and -6", Edges::furnished, -1, x -> x.two(-1, -1, -1));
    }

    // ---- promise 32

    static void promise32FromNoneToAllEight() {
        Check.due("no garments", Edges.peopleAlone().alone(0), 0);
        Check.due("nothing there", new ClothesRemember().alone(11), 0);
        ClothesRemember x = new ClothesRemember();
        x.person(0);
        for (int g = 0; g < 8; g++) {
            x.garment(1, 9);
            x.habit(g, 11, 1, 9);
            Check.due("up to " + g, x.alone(11), (2 << g) - 1);
        }
        Check.due("at another hour", x.alone(10), 0);
        for (int g = 0; g < 8; g++) {
            x.wear(g, 0);
            Check.due("worn up to " + g, x.alone(11), 255 & ~((2 << g) - 1));
        }
    }

    static void promise32ByKind() {
        Edges.asked("coat, uniform and gown of eight", Edges::garmentsAlone, 2 + 8 + 64, x -> x.alone(0) & 127);
    }

    static void promise32HoursAre0To11() {
        for (int hour = 0; hour < HOURS; hour++) {
            ClothesRemember x = new ClothesRemember();
            x.garment(1, 9);
            x.habit(0, hour, 1, 1);
            for (int asked = 0; asked < HOURS; asked++) {
                Check.due("at " + asked, x.alone(asked), asked == hour ? 1 : 0);
            }
        }
        Edges.refusedOutside("alone(?)", Edges::furnished, 0, 11, -6, (x, hour) -> x.alone(hour));
        Edges.refusedOutside("alone(?)", Edges::empty, 0, 11, -6, (x, hour) -> x.alone(hour));
    }

    // ---- promise 33

    static void promise33FromTheFirstHourOfTheFirstToTheLastOfTheSixth() {
        for (int p = 0; p < 6; p++) {
            for (int hour = 0; hour < HOURS; hour++) {
                ClothesRemember x = new ClothesRemember();
                for (int i = 0; i < 6; i++) {
                    x.person(0);
                }
                x.garment(1, 9);
                x.habit(0, hour, 7, 1);
                x.own(p, hour, 7);
                Check.due("person " + p + " at " + hour, x.home(0), 100 * p + hour);
            }
        }
    }

    static void promise33NeverGoes() {
        ClothesRemember x = garment(1, 0, 9);
        x.person(0);
        x.own(0, 3, 5);
        Check.due("pulls 9 at all hours", x.home(0), -1);
        Check.due("though it is somebody's", x.whose(0), 0);
    }

    static void promise33TheFirstHour() {
        ClothesRemember x = garment(1, 5, 4);
        x.person(0);
        x.own(0, 0, 5);
        Check.due("pulls 9 everywhere", x.home(0), -1);
        for (int hour = 11; hour >= 0; hour--) {
            x.habit(0, hour, 5, 5);
            Check.due("pulls 10 from " + hour, x.home(0), hour);
        }
    }

    static void promise33WhereAndWhenMayBeOfTwoHours() {
        ClothesRemember x = new ClothesRemember();
        x.person(0);
        x.person(0);
        x.garment(1, 9);
        x.habit(0, 2, 3, 1);
        x.habit(0, 9, 4, 9);
        x.own(1, 9, 4);
        Check.due("home of the one like it at 9, going at 2", x.home(0), 102);
    }

    static void promise33Nobodys() {
        Check.due("without people", garment(1, 9, 9).home(0), -1);
        ClothesRemember x = garment(1, 9, 9);
        x.person(0);
        Check.due("without own deeds", x.home(0), -1);
        x.own(0, 0, 4);
        Check.due("with another own deed", x.home(0), -1);
        x.own(0, 0, 5);
        Check.due("somebody's", x.home(0), 0);
    }

    static void promise33SomebodyWearsIt() {
        ClothesRemember x = garment(1, 9, 9);
        x.person(0);
        x.person(0);
        x.own(0, 0, 5);
        x.wear(0, 1);
        Check.due("worn by another", x.home(0), -1);
        x.wear(0, 0);
        Check.due("worn by the one it is like", x.home(0), -1);
        x.wear(0, -1);
        Check.due("worn no more", x.home(0), 0);
    }

    static void promise33KindsThatNeverGo() {
        for (int kind = 0; kind <= 6; kind++) {
            ClothesRemember x = garment(kind, 9, 9);
            x.person(0);
            x.own(0, 0, 5);
            Check.due("kind " + kind, x.home(0), kind == 1 || kind == 3 || kind == 6 ? 0 : -1);
        }
    }

    static void promise33GarmentsAreThoseThere() {
        Edges.asked("home(7) of eight", Edges::garmentsAlone, -1, x -> x.home(7));
        Edges.refusedOutside("home(?) of eight", Edges::full, 0, 7, -11, (x, g) -> x.home(g));
        Edges.refusedOutside("home(?) of four", Edges::furnished, 0, 3, -11, (x, g) -> x.home(g));
        Edges.refusedOutside("home(?) of none", Edges::peopleAlone, 0, -1, -11, (x, g) -> x.home(g));
    }

    // ---- promise 34

    /** One who wears that many garments of a kind, all with habits of 5 and just as firm; his own deeds are 1. */
    private static ClothesRemember wearing(int garments, int kind, int firm) {
        ClothesRemember x = new ClothesRemember();
        x.person(0);
        for (int hour = 0; hour < HOURS; hour++) {
            x.own(0, hour, 1);
        }
        for (int g = 0; g < garments; g++) {
            x.garment(kind, 0);
            accustom(x, g, 5, firm);
            x.wear(g, 0);
        }
        return x;
    }

    static void promise34CureFrom0To9() {
        Check.due("no garments", wearing(0, 0, 1).cure(0, 0), 0);
        for (int firm = 1; firm <= 9; firm++) {
            Check.due("pulls " + firm, wearing(1, 0, firm).cure(0, 0), firm);
        }
        Check.due("pulls 10", wearing(1, 4, 5).cure(0, 0), -1);
        Check.due("a rag of 1 pulls 0", wearing(1, 5, 1).cure(0, 0), 0);
    }

    static void promise34CureIsOfAllHours() {
        for (int hour = 0; hour < HOURS; hour++) {
            ClothesRemember x = wearing(1, 0, 3);
            x.habit(0, hour, 5, 8);
            Check.due("8 at " + hour, x.cure(0, 0), 8);
            x.habit(0, hour, 1, 9);
            Check.due("his own deed at " + hour, x.cure(0, 0), 3);
        }
    }

    static void promise34ByDeedsWhoeverTheyComeFrom() {
        ClothesRemember x = wearing(2, 4, 5);
        accustom(x, 1, 1, 6);
        Check.due("the second garment does them", x.cure(0, 0), 0);
        Check.due("nothing is taken off", x.cure(0, 1), 0);
        accustom(x, 1, 1, 5);
        Check.due("the first pulls as much", x.cure(0, 0), -1);
        Check.due("it is taken off", x.cure(0, 1), 1);
    }

    static void promise34WhateverHisWillIs() {
        ClothesRemember x = wearing(1, 0, 4);
        for (int will = 0; will <= 9; will++) {
            x.will(0, will);
            Check.due("cure with will " + will, x.cure(0, 0), 4);
            Check.due("strip with will " + will, x.cure(0, 1), will < 4 ? 1 : 0);
        }
    }

    static void promise34StripFromNoneToAllEight() {
        for (int garments = 0; garments <= 8; garments++) {
            Check.due("all of " + garments, wearing(garments, 0, 1).cure(0, 1), (1 << garments) - 1);
            ClothesRemember x = wearing(garments, 0, 1);
            x.will(0, 1);
            Check.due("by his will none of " + garments, x.cure(0, 1), 0);
        }
    }

    static void promise34StripTheFewest() {
        ClothesRemember x = wearing(3, 0, 5);
        accustom(x, 2, 1, 6);
        Check.due("the third outdoes both", x.cure(0, 1), 0);
        x.habit(0, 4, 5, 7);
        Check.due("the first at one hour", x.cure(0, 1), 1);
        x.habit(1, 11, 6, 7);
        Check.due("the second at another", x.cure(0, 1), 3);
        x.habit(2, 4, 1, 8);
        x.habit(2, 11, 1, 8);
        Check.due("the third is firmer", x.cure(0, 1), 0);
        x.habit(2, 0, 6, 8);
        Check.due("the third at an hour of its own, then both as well", x.cure(0, 1), 7);
    }

    /**
     * What may stay on may stay on together (of two such sets the garment that pulls most is one of theirs), so the
     * fewest are always one set alone; of several, as the document says, the least would be told.
     */
    static void promise34StripAsBits() {
        for (int off = 0; off < 256; off++) {
            ClothesRemember x = wearing(8, 0, 0);
            for (int g = 0; g < 8; g++) {
                x.habit(g, g, (off >> g & 1) != 0 ? 5 : 1, 1);
            }
            Check.due("those with another deed", x.cure(0, 1), off);
        }
        ClothesRemember x = wearing(3, 0, 0);
        x.habit(0, 0, 5, 3);
        x.habit(1, 0, 1, 3);
        x.habit(2, 0, 6, 3);
        Check.due("of alike pulls the first goes, the second does it then", x.cure(0, 1), 1);
        x.habit(1, 0, 4, 3);
        Check.due("all three", x.cure(0, 1), 7);
        x.own(0, 0, 6);
        Check.due("the first two", x.cure(0, 1), 3);
    }

    static void promise34UniformsCountWornOrNot() {
        ClothesRemember x = wearing(2, 3, 2);
        Check.due("2 and 2", x.cure(0, 0), 4);
        x.wear(1, -1);
        Check.due("the other is off", x.cure(0, 0), 4);
        x.will(0, 3);
        Check.due("taken off", x.cure(0, 1), 1);
        x.wear(1, 0);
        Check.due("one off would still help the other", x.cure(0, 1), 3);
        x.will(0, 4);
        Check.due("none is to be taken off", x.cure(0, 1), 0);
    }

    static void promise34WhatIs0Or1() {
        Edges.asked("cure(0, 0)", Edges::furnished, -1, x -> x.cure(0, 0));
        Edges.asked("cure(0, 1)", Edges::furnished, 1, x -> x.cure(0, 1));
        Edges.refusedOutside("cure(0, ?)", Edges::furnished, 0, 1, -15, (x, what) -> x.cure(0, what));
    }

    static void promise34PeopleAreThoseThere() {
        Edges.asked("the sixth of six", Edges::peopleAlone, 0, x -> x.cure(5, 0));
        Edges.refusedOutside("cure(?, 0) of six", Edges::full, 0, 5, -11, (x, p) -> x.cure(p, 0));
        Edges.refusedOutside("cure(?, 1) of two", Edges::furnished, 0, 1, -11, (x, p) -> x.cure(p, 1));
        Edges.refusedOutside("cure(?, 0) of none", Edges::garmentsAlone, 0, -1, -11, (x, p) -> x.cure(p, 0));
    }

    static void promise34RefusalsInTheirOrder() {
        Edges.refused("-11 ahead of -15", Edges::furnished, -11, x -> x.cure(2, 2));
        Edges.refused("-11 ahead of -15", Edges::empty, -11, x -> x.cure(-1, -1));
    }

    // ---- promise 35

    /** One who does 9 at hour 11 and 3 at hour 4 of himself; shelf 0 tells just that. */
    private static ClothesRemember judged() {
        ClothesRemember x = new ClothesRemember();
        x.person(0);
        x.own(0, 4, 3);
        x.own(0, 11, 9);
        Check.fill(x, 0, 3, 0, 0, 0, 0, 3, 0, 0, 0, 0, 0, 0, 9);
        return x;
    }

    static void promise35FromTheFirstHourToNone() {
        Edges.asked("none wrong", OutcomesEdgesTest::judged, -1, x -> x.judge(0, 0));
        for (int hour = 0; hour < HOURS; hour++) {
            ClothesRemember x = judged();
            x.set(0, hour, 5);
            Check.due("wrong at " + hour, x.judge(0, 0), hour);
            for (int later = hour + 1; later < HOURS; later++) {
                x.set(0, later, 6);
            }
            Check.due("the first of all from " + hour, x.judge(0, 0), hour);
        }
    }

    static void promise35DeedsAre0To9() {
        for (int hour = 0; hour < HOURS; hour++) {
            for (long v : new long[] {-1, 10, MIN, MAX}) {
                ClothesRemember x = judged();
                x.set(0, hour, v);
                Check.due(v + " at " + hour, x.judge(0, 0), hour);
            }
        }
    }

    static void promise35TwelveElementsOrMore() {
        for (int n : new int[] {12, 13, 160}) {
            ClothesRemember x = new ClothesRemember();
            x.person(0);
            x.row(0, 0, n);
            if (n > 12) {
                x.set(0, 12, 99);
                x.set(0, n - 1, -9);
            }
            Check.due(n + " elements", x.judge(0, 0), -1);
        }
        Edges.refused("eleven", Edges::furnished, -15, x -> x.judge(3, 0));
        Edges.refused("three", Edges::furnished, -15, x -> x.judge(4, 0));
        Edges.refused("none", Edges::furnished, -15, x -> x.judge(7, 1));
    }

    static void promise35LowestBitsOfLongs() {
        ClothesRemember x = judged();
        x.set(0, 4, 3 + (1L << 32));
        x.set(0, 11, 9 - (1L << 40));
        x.set(0, 0, 1L << 63);
        Check.due("as ints", x.judge(0, 0), -1);
        x.set(0, 4, 3 + (1L << 31));
        Check.due("bit 31 counts", x.judge(0, 0), 4);
    }

    static void promise35Refusals() {
        Edges.refusedOutside("judge(?, 0)", Edges::furnished, 0, 7, -11, (x, s) -> x.judge(s, 0));
        Edges.refusedOutside("judge(0, ?) of two", Edges::furnished, 0, 1, -11, (x, p) -> x.judge(0, p));
        Edges.refusedOutside("judge(0, ?) of six", Edges::full, 0, 5, -11, (x, p) -> x.judge(0, p));
        Edges.refusedOutside("judge(0, ?) of none", Edges::garmentsAlone, 0, -1, -11, (x, p) -> x.judge(0, p));
        Edges.refused("neither counts once", Edges::furnished, -11, x -> x.judge(8, 2));
        Edges.refused("a garment", Edges::furnished, -12, x -> x.judge(1, 0));
        Edges.refused("nothing", Edges::furnished, -13, x -> x.judge(2, 0));
        Check.due("the sixth of six", Edges.full().judge(0, 5) >= -1 ? 1 : 0, 1);
    }

    static void promise35RefusalsInTheirOrder() {
        Edges.refused("-11 ahead of -12", Edges::furnished, -11, x -> x.judge(1, 2));
        Edges.refused("-11 ahead of -13", Edges::furnished, -11, x -> x.judge(2, -1));
        Edges.refused("-11 ahead of -15", Edges::furnished, -11, x -> x.judge(3, 2));
    }

    // ---- promise 36

    /** A garment of a kind with habits of 5 just as firm at all hours; shelf 0 tells one deed at all hours. */
    private static ClothesRemember taught(int kind, int firm, int deed) {
        ClothesRemember x = garment(kind, 0, firm);
        x.row(0, 3, 12);
        for (int hour = 0; hour < HOURS; hour++) {
            x.set(0, hour, deed);
        }
        return x;
    }

    static void promise36BehindHowFewDays() {
        int[] steps = {1, 1, 2, 2, 0, 3, 0};
        for (int kind = 0; kind <= 6; kind++) {
            Edges.World fresh = freshOf(kind);
            Edges.asked("from no habits, kind " + kind, fresh, 1, x -> x.taught(0, 0));
            for (int firm = 1; firm <= 9; firm++) {
                Check.due("has them, kind " + kind + " firm " + firm, taught(kind, firm, 5).taught(0, 0), 0);
                int days = steps[kind] == 0 ? -1 : (firm + steps[kind] - 1) / steps[kind];
                Check.due("others, kind " + kind + " firm " + firm, taught(kind, firm, 4).taught(0, 0), days);
            }
        }
    }

    private static Edges.World freshOf(int kind) {
        return () -> taught(kind, 0, 9);
    }

    static void promise36ZeroAside() {
        for (int kind = 0; kind <= 6; kind++) {
            Check.due("nothing told, kind " + kind, taught(kind, 9, 0).taught(0, 0), 0);
            Check.due("nothing told of no habits, kind " + kind, taught(kind, 0, 0).taught(0, 0), 0);
        }
    }

    static void promise36TheSlowestHourCounts() {
        for (int hour = 0; hour < HOURS; hour++) {
            ClothesRemember x = taught(0, 2, 4);
            Check.due("two days", x.taught(0, 0), 2);
            x.habit(0, hour, 5, 9);
            Check.due("nine for hour " + hour, x.taught(0, 0), 9);
            x.set(0, hour, 0);
            Check.due("not told at " + hour, x.taught(0, 0), 2);
            ClothesRemember y = taught(4, 0, 4);
            y.habit(0, hour, 5, 1);
            Check.due("silk never at " + hour, y.taught(0, 0), -1);
            y.set(0, hour, 5);
            Check.due("silk has that of " + hour, y.taught(0, 0), 1);
        }
    }

    static void promise36WornOrNot() {
        ClothesRemember x = taught(0, 3, 4);
        Check.due("nobody wears it", x.taught(0, 0), 3);
        x.person(9);
        x.wear(0, 0);
        Check.due("worn by one of another will", x.taught(0, 0), 3);
    }

    static void promise36DeedsAre1To9Or0() {
        for (int deed = 0; deed <= 9; deed++) {
            Check.due("deed " + deed, taught(0, 0, deed).taught(0, 0), deed == 0 ? 0 : 1);
        }
        for (int hour = 0; hour < HOURS; hour++) {
            for (int v : Edges.outside(0, 9)) {
                Edges.refused(v + " at " + hour, spoilt(hour, v), -16, x -> x.taught(0, 0));
            }
        }
    }

    private static Edges.World spoilt(int hour, int v) {
        return () -> {
            ClothesRemember x = taught(0, 3, 4);
            x.set(0, hour, v);
            return x;
        };
    }

    static void promise36TwelveElementsOrMore() {
        for (int n : new int[] {12, 13, 160}) {
            ClothesRemember x = garment(0, 0, 4);
            x.row(0, 0, n);
            x.set(0, 11, 4);
            if (n > 12) {
                x.set(0, 12, 99);
                x.set(0, n - 1, -9);
            }
            Check.due(n + " elements", x.taught(0, 0), 4);
        }
        Edges.refused("eleven", Edges::furnished, -15, x -> x.taught(3, 0));
        Edges.refused("three", Edges::furnished, -15, x -> x.taught(4, 0));
        Edges.refused("none", Edges::furnished, -15, x -> x.taught(7, 0));
    }

    static void promise36LowestBitsOfLongs() {
        ClothesRemember x = taught(0, 1, 5);
        x.set(0, 0, 4 + (1L << 32));
        x.set(0, 11, -(1L << 32));
        Check.due("as ints", x.taught(0, 0), 1);
        x.set(0, 1, 5 + (1L << 31));
        Check.due("bit 31 counts", x.taught(0, 0), -16);
    }

    static void promise36Refusals() {
        Edges.refusedOutside("taught(?, 0)", Edges::furnished, 0, 7, -11, (x, s) -> x.taught(s, 0));
        Edges.refusedOutside("taught(0, ?) of four", Edges::furnished, 0, 3, -11, (x, g) -> x.taught(0, g));
        Edges.refusedOutside("taught(0, ?) of eight", Edges::full, 0, 7, -11, (x, g) -> x.taught(0, g));
        Edges.refusedOutside("taught(0, ?) of none", Edges::peopleAlone, 0, -1, -11, (x, g) -> x.taught(0, g));
        Edges.refused("neither counts once", Edges::furnished, -11, x -> x.taught(8, 4));
        Edges.refused("a garment", Edges::furnished, -12, x -> x.taught(1, 0));
        Edges.refused("nothing", Edges::furnished, -13, x -> x.taught(2, 0));
        Edges.refused("a -1", Edges::furnished, -16, x -> x.taught(0, 0));
        Edges.asked("the last of eight", Edges::full, 0, x -> x.taught(0, 7));
    }

    static void promise36RefusalsInTheirOrder() {
        Edges.refused("-11 ahead of -12", Edges::furnished, -11, x -> x.taught(1, 4));
        Edges.refused("-11 ahead of -13", Edges::furnished, -11, x -> x.taught(2, -1));
        Edges.refused("-11 ahead of -15", Edges::furnished, -11, x -> x.taught(3, 4));
        Edges.refused("-11 ahead of -16", Edges::furnished, -11, x -> x.taught(0, 4));
        Edges.refused("-15 ahead of -16", Edges::furnished, -15, x -> x.taught(4, 0));
    }
}
