/** Boundary cases of promises 19 to 23 and 37 to 40. */
public final class DaysEdgesTest {
    private static final int MIN = Edges.MIN;
    private static final int MAX = Edges.MAX;
    private static final int HOURS = Edges.HOURS;

    public static void main(String[] args) throws Exception {
        Edges.run(DaysEdgesTest.class);
    }

    /** One of that will with an own deed 1 at all hours, wearing a garment with a habit of 5 at all hours. */
    private static ClothesRemember dressed(int will, int kind, int firm) {
        ClothesRemember x = new ClothesRemember();
        x.person(will);
        x.garment(kind, 0);
        x.wear(0, 0);
        for (int hour = 0; hour < HOURS; hour++) {
            x.own(0, hour, 1);
            if (firm > 0) {
                x.habit(0, hour, 5, firm);
            }
        }
        return x;
    }

    // ---- promise 19

    static void promise19DaysAre0To60() {
        Edges.asked("does(0, 0, 0)", Edges::furnished, 2, x -> x.does(0, 0, 0));
        Edges.asked("does(0, 60, 0)", Edges::furnished, 2, x -> x.does(0, 60, 0));
        Edges.refusedOutside("does(0, ?, 0)", Edges::furnished, 0, 60, -6, (x, n) -> x.does(0, n, 0));
    }

    static void promise19HoursAre0To11() {
        Edges.asked("does(1, 0, 11)", Edges::furnished, 9, x -> x.does(1, 0, 11));
        Edges.asked("does(1, 60, 11)", Edges::furnished, 9, x -> x.does(1, 60, 11));
        Edges.refusedOutside("does(0, 0, ?)", Edges::furnished, 0, 11, -6, (x, hour) -> x.does(0, 0, hour));
    }

    static void promise19PeopleAreThoseThere() {
        Check.due("the sixth of six", Edges.peopleAlone().does(5, 60, 5), 6);
        Check.due("the first of six", Edges.peopleAlone().does(0, 60, 0), 1);
        Edges.refusedOutside("does(?, 0, 0) of six", Edges::full, 0, 5, -1, (x, p) -> x.does(p, 0, 0));
        Edges.refusedOutside("does(?, 0, 0) of two", Edges::furnished, 0, 1, -1, (x, p) -> x.does(p, 0, 0));
        Edges.refusedOutside("does(?, 0, 0) of none", Edges::garmentsAlone, 0, -1, -1, (x, p) -> x.does(p, 0, 0));
    }

    static void promise19RefusalsInTheirOrder() {
        Edges.refused("-1 ahead of -6, days", Edges::furnished, -1, x -> x.does(2, 61, 0));
        Edges.refused("-1 ahead of -6, hour", Edges::furnished, -1, x -> x.does(-1, 0, 12));
        Edges.refused("days and hour count once", Edges::furnished, -6, x -> x.does(0, -1, -1));
    }

    static void promise19Today() {
        ClothesRemember x = dressed(3, 0, 3);
        Check.due("not above his will today", x.does(0, 0, 4), 1);
        x.habit(0, 4, 5, 4);
        Check.due("above his will today", x.does(0, 0, 4), 5);
    }

    /**
     * The first one's uniform is of the same habit as the second's till it has learnt another deed, behind three days;
     * without its help the second's pulls 10, no more than the silk ahead of it.
     */
    private static ClothesRemember helped() {
        ClothesRemember x = new ClothesRemember();
        x.person(9);
        x.person(9);
        x.garment(4, 0);
        x.garment(3, 0);
        x.garment(3, 0);
        x.own(0, 0, 1);
        x.habit(0, 0, 6, 5);
        x.habit(1, 0, 5, 9);
        x.habit(2, 0, 5, 5);
        x.wear(0, 1);
        x.wear(1, 1);
        x.wear(2, 0);
        return x;
    }

    static void promise19BehindAsManyDaysAsTold() {
        for (int n = 0; n <= 60; n++) {
            Check.due("the second behind " + n, helped().does(1, n, 0), n < 3 ? 5 : 6);
            Check.due("the first behind " + n, helped().does(0, n, 0), 1);
        }
    }

    static void promise21BehindAsManyDaysAsTold() {
        int[] helper = {5, 3, 1, 1, 3, 5, 7, 9, 9};
        int[] second = {9, 9, 9, 9, 7, 5, 3, 1, 1, 3, 5, 7, 9, 9};
        for (int n = 0; n <= 60; n++) {
            Check.due("the helper's habit behind " + n, helped().behind(2, n, 0, 0), n < 3 ? 5 : 1);
            Check.due("the helper's firm behind " + n, helped().behind(2, n, 0, 1), helper[Math.min(n, 8)]);
            Check.due("the second's habit behind " + n, helped().behind(1, n, 0, 0), n < 8 ? 5 : 6);
            Check.due("the second's firm behind " + n, helped().behind(1, n, 0, 1), second[Math.min(n, 13)]);
        }
    }

    static void promise22WhatIsLearntLater() {
        Check.due("the second's uniform is the last", helped().settled(), 12);
    }

    static void promise19OfSeveralTheFirst() {
        ClothesRemember x = new ClothesRemember();
        x.person(4);
        for (int g = 0; g < 8; g++) {
            x.garment(0, 0);
            x.habit(g, 11, g + 1, 5);
            x.wear(g, 0);
        }
        Check.due("all eight alike", x.does(0, 0, 11), 1);
        x.wear(0, -1);
        Check.due("without the first", x.does(0, 0, 11), 2);
        x.habit(7, 11, 8, 6);
        Check.due("the last pulls one more", x.does(0, 0, 11), 8);
        x.will(0, 6);
        Check.due("as much as his will", x.does(0, 0, 11), 0);
    }

    static void promise19NoGarmentsNoDeeds() {
        ClothesRemember x = Edges.peopleAlone();
        Check.due("his own", x.does(2, 0, 2), 3);
        Check.due("nothing", x.does(2, 60, 3), 0);
    }

    // ---- promise 20

    static void promise20DaysAre0To60() {
        Edges.asked("goes(3, 0, 4)", Edges::furnished, 5, x -> x.goes(3, 0, 4));
        Edges.asked("goes(3, 60, 4)", Edges::furnished, 5, x -> x.goes(3, 60, 4));
        Edges.refusedOutside("goes(3, ?, 4)", Edges::furnished, 0, 60, -6, (x, n) -> x.goes(3, n, 4));
    }

    static void promise20HoursAre0To11() {
        Edges.asked("goes(3, 0, 0)", Edges::furnished, 0, x -> x.goes(3, 0, 0));
        Edges.asked("goes(3, 0, 11)", Edges::furnished, 0, x -> x.goes(3, 0, 11));
        ClothesRemember x = new ClothesRemember();
        x.garment(1, 9);
        x.habit(0, 0, 3, 9);
        x.habit(0, 11, 4, 9);
        Check.due("at 0", x.goes(0, 60, 0), 3);
        Check.due("at 11", x.goes(0, 60, 11), 4);
        Edges.refusedOutside("goes(3, 0, ?)", Edges::furnished, 0, 11, -6, (y, hour) -> y.goes(3, 0, hour));
    }

    static void promise20GarmentsAreThoseThere() {
        Check.due("the second of eight", Edges.garmentsAlone().goes(1, 0, 0), 3);
        Check.due("the eighth of eight", Edges.garmentsAlone().goes(7, 0, 0), 0);
        Edges.refusedOutside("goes(?, 0, 0) of eight", Edges::full, 0, 7, -1, (x, g) -> x.goes(g, 0, 0));
        Edges.refusedOutside("goes(?, 0, 0) of four", Edges::furnished, 0, 3, -1, (x, g) -> x.goes(g, 0, 0));
        Edges.refusedOutside("goes(?, 0, 0) of none", Edges::peopleAlone, 0, -1, -1, (x, g) -> x.goes(g, 0, 0));
    }

    static void promise20RefusalsInTheirOrder() {
        Edges.refused("-1 ahead of -6, days", Edges::furnished, -1, x -> x.goes(4, 61, 0));
        Edges.refused("-1 ahead of -6, hour", Edges::furnished, -1, x -> x.goes(-1, 0, 12));
        Edges.refused("days and hour count once", Edges::furnished, -6, x -> x.goes(0, 61, 12));
    }

    static void promise20NothingIfSomebodyWearsIt() {
        Edges.asked("goes(0, 0, 0), worn", Edges::furnished, 0, x -> x.goes(0, 0, 0));
        Edges.asked("goes(0, 60, 0), worn", Edges::furnished, 0, x -> x.goes(0, 60, 0));
        ClothesRemember x = Edges.furnished();
        x.wear(0, -1);
        Check.due("worn no more", x.goes(0, 0, 0), 2);
    }

    static void promise20OnTheDayThatFollows() {
        // the worn uniform's habit is 5 behind one day: then two pull 10, before it one pulled 9
        ClothesRemember x = new ClothesRemember();
        x.person(0);
        x.garment(3, 0);
        x.garment(3, 0);
        x.own(0, 2, 5);
        x.habit(0, 2, 5, 8);
        x.wear(1, 0);
        Check.due("today", x.goes(0, 0, 2), 0);
        Check.due("behind one day", x.goes(0, 1, 2), 5);
        Check.due("behind 60 days", x.goes(0, 60, 2), 5);
    }

    // ---- promise 21

    static void promise21DaysAre0To60() {
        Edges.asked("behind(0, 0, 0, 1)", Edges::furnished, 9, x -> x.behind(0, 0, 0, 1));
        Edges.asked("behind(2, 60, 11, 1)", Edges::furnished, 1, x -> x.behind(2, 60, 11, 1));
        Edges.refusedOutside("behind(0, ?, 0, 0)", Edges::furnished, 0, 60, -6, (x, n) -> x.behind(0, n, 0, 0));
        Edges.refusedOutside("behind(0, ?, 0, 1)", Edges::furnished, 0, 60, -6, (x, n) -> x.behind(0, n, 0, 1));
    }

    static void promise21HoursAre0To11() {
        ClothesRemember x = dressed(9, 0, 9);
        x.habit(0, 11, 6, 8);
        x.habit(0, 0, 7, 7);
        Check.due("habit at 0", x.behind(0, 0, 0, 0), 7);
        Check.due("firm at 0", x.behind(0, 1, 0, 1), 6);
        Check.due("habit at 11", x.behind(0, 0, 11, 0), 6);
        Check.due("firm at 11", x.behind(0, 1, 11, 1), 7);
        Edges.refusedOutside("behind(0, 0, ?, 0)", Edges::furnished, 0, 11, -6, (y, hour) -> y.behind(0, 0, hour, 0));
    }

    static void promise21GarmentsAreThoseThere() {
        Check.due("the first of eight", Edges.garmentsAlone().behind(0, 60, 0, 1), 9);
        Check.due("the eighth of eight", Edges.garmentsAlone().behind(7, 60, 0, 0), 3);
        Edges.refusedOutside("behind(?, 0, 0, 0) of eight", Edges::full, 0, 7, -1, (x, g) -> x.behind(g, 0, 0, 0));
        Edges.refusedOutside("behind(?, 0, 0, 0) of four", Edges::furnished, 0, 3, -1,
            (x, g) -> x.behind(g, 0, 0, 0));
        Edges.refusedOutside("behind(?, 0, 0, 0) of none", Edges::peopleAlone, 0, -1, -1,
            (x, g) -> x.behind(g, 0, 0, 0));
    }

    static void promise21WhatIs0Or1() {
        Edges.asked("behind(0, 0, 0, 0)", Edges::furnished, 2, x -> x.behind(0, 0, 0, 0));
        Edges.refusedOutside("behind(0, 0, 0, ?)", Edges::furnished, 0, 1, -5, (x, what) -> x.behind(0, 0, 0, what));
    }

    static void promise21RefusalsInTheirOrder() {
        Edges.refused("-1 ahead of -5", Edges::furnished, -1, x -> x.behind(4, 0, 0, 2));
        Edges.refused("-1 ahead of -6", Edges::furnished, -1, x -> x.behind(-1, 61, 0, 0));
        Edges.refused("-5 ahead of -6, days", Edges::furnished, -5, x -> x.behind(0, 61, 0, 2));
        Edges.refused("-5 ahead of -6, hour", Edges::furnished, -5, x -> x.behind(0, 0, 12, -1));
        Edges.refused("-1 ahead of -5 and -6", Edges::furnished, -1, x -> x.behind(4, -1, -1, -1));
        Edges.refused("days and hour count once", Edges::furnished, -6, x -> x.behind(0, -1, 12, 1));
    }

    static void promise21FirmUpTo9AndDownTo1() {
        ClothesRemember x = dressed(9, 0, 9);
        for (int n = 0; n <= 8; n++) {
            Check.due("down behind " + n, x.behind(0, n, 0, 1), 9 - n);
            Check.due("still its habit behind " + n, x.behind(0, n, 0, 0), 5);
        }
        for (int n = 9; n <= 17; n++) {
            Check.due("up behind " + n, x.behind(0, n, 0, 1), n - 8);
            Check.due("another habit behind " + n, x.behind(0, n, 0, 0), 1);
        }
        Check.due("9 at most", x.behind(0, 18, 0, 1), 9);
        Check.due("9 at most", x.behind(0, 60, 0, 1), 9);
    }

    static void promise21AllHoursOfAllGarments() {
        ClothesRemember x = new ClothesRemember();
        for (int p = 0; p < 6; p++) {
            x.person(9);
            for (int hour = 0; hour < HOURS; hour++) {
                x.own(p, hour, (p + hour) % 9 + 1);
            }
        }
        for (int g = 0; g < 8; g++) {
            x.garment(0, 0);
            x.wear(g, g % 6);
        }
        for (int g = 0; g < 8; g++) {
            for (int hour = 0; hour < HOURS; hour++) {
                Check.due("garment " + g + " at " + hour, x.behind(g, 1, hour, 0), (g % 6 + hour) % 9 + 1);
            }
        }
    }

    static void promise21AllGarmentsThatOneWears() {
        ClothesRemember x = new ClothesRemember();
        x.person(9);
        for (int hour = 0; hour < HOURS; hour++) {
            x.own(0, hour, 7);
        }
        for (int g = 0; g < 8; g++) {
            x.garment(g % 7, 0);
            x.wear(g, 0);
        }
        for (int g = 0; g < 8; g++) {
            Check.due("learns: " + g, x.behind(g, 1, 11, 0), 7);
            Check.due("firm: " + g, x.behind(g, 1, 11, 1), g == 4 || g == 6 ? 9 : 1);
        }
        x.wear(5, -1);
        Check.due("but one that is off", x.behind(5, 60, 11, 0), 0);
    }

    static void promise21ByWhetherThereIsAHabitAtThatHour() {
        for (int kind : new int[] {4, 6}) {
            ClothesRemember x = dressed(9, kind, 0);
            x.habit(0, 3, 5, 1);
            for (int hour = 0; hour < HOURS; hour++) {
                Check.due("habit of kind " + kind + " at " + hour, x.behind(0, 60, hour, 0), hour == 3 ? 5 : 1);
                Check.due("firm of kind " + kind + " at " + hour, x.behind(0, 60, hour, 1), hour == 3 ? 1 : 9);
            }
        }
    }

    // ---- promise 22

    static void promise22NothingThere() {
        Edges.asked("nobody, no garments", Edges::empty, 0, x -> x.settled());
        Edges.asked("no garments", Edges::peopleAlone, 0, x -> x.settled());
        Edges.asked("no people", Edges::garmentsAlone, 0, x -> x.settled());
    }

    static void promise22FromTodayOn() {
        Check.due("as firm as can be", dressed(0, 0, 9).settled(), 0);
        Check.due("one day left", dressed(0, 0, 8).settled(), 1);
        Check.due("eight days left", dressed(0, 0, 1).settled(), 8);
        Check.due("nine to forget, eight to learn", dressed(9, 0, 9).settled(), 17);
        Check.due("from no habit", dressed(9, 0, 0).settled(), 9);
        Check.due("a shirt from no habit: 1, 3, 5, 7, 9", dressed(9, 2, 0).settled(), 5);
        Check.due("a rag from no habit: 1, 4, 7, 9", dressed(9, 5, 0).settled(), 4);
        Check.due("silk from no habit", dressed(9, 4, 0).settled(), 1);
        Check.due("silk with one", dressed(9, 4, 1).settled(), 0);
    }

    /**
     * The longest that a search over many thousands of wardrobes found: a uniform that forgets takes its help from
     * the next. 60 days are never reached, so that settled() has no NONE to answer.
     */
    static void promise22TheLongestThatWasFound() {
        int[][] garments = {{6, 9, 3, 9, 0}, {4, 3, 4, 7, 1}, {0, 8, 1, 9, 3}, {3, 6, 1, 9, 2}, {3, 6, 3, 2, 3},
            {3, 8, 1, 9, 0}, {4, 0, 2, 9, 2}, {3, 0, 1, 9, 1}};
        int[] wills = {3, 5, 2, 9, 5, 4};
        int[] own = {1, 5, 4, 0, 3, 3};
        ClothesRemember x = new ClothesRemember();
        for (int p = 0; p < 6; p++) {
            x.person(wills[p]);
            x.own(p, 5, own[p]);
        }
        for (int g = 0; g < 8; g++) {
            x.garment(garments[g][0], garments[g][1]);
            x.habit(g, 5, garments[g][2], garments[g][3]);
            x.wear(g, garments[g][4]);
        }
        Check.due("32 days", x.settled(), 32);
        x.days(31);
        Check.due("one is left", x.settled(), 1);
        x.days(1);
        Check.due("none is left", x.settled(), 0);
    }

    static void promise22TheSlowestHourCounts() {
        for (int hour = 0; hour < HOURS; hour++) {
            ClothesRemember x = dressed(0, 0, 9);
            x.habit(0, hour, 5, 3);
            Check.due("hour " + hour, x.settled(), 6);
        }
        ClothesRemember x = dressed(0, 0, 9);
        x.garment(0, 0);
        x.wear(1, 0);
        Check.due("another garment: 1 and eight more", x.settled(), 9);
    }

    static void promise22NothingIsRefusedOrChanged() {
        Edges.asked("six and eight", Edges::full, Edges.full().settled(), x -> x.settled());
        ClothesRemember x = Edges.full();
        int n = x.settled();
        ClothesRemember y = Edges.full();
        y.days(n);
        Check.due("nothing is learnt any more", y.settled(), 0);
        ClothesRemember z = Edges.full();
        z.days(n - 1);
        Check.due("on the day before it is", z.settled(), 1);
    }

    // ---- promise 23

    static void promise23From0To12() {
        Check.due("no hour", dressed(9, 0, 9).wins(0), 0);
        Check.due("all hours", dressed(8, 0, 9).wins(0), 12);
        ClothesRemember x = dressed(8, 0, 9);
        for (int hour = 0; hour < HOURS; hour++) {
            x.own(0, hour, 5);
            Check.due("his own at " + hour, x.wins(0), 11 - hour);
        }
    }

    static void promise23AnOwnOf0Counts() {
        ClothesRemember x = dressed(8, 0, 9);
        for (int hour = 0; hour < HOURS; hour++) {
            x.own(0, hour, 0);
        }
        Check.due("all hours", x.wins(0), 12);
        x.will(0, 9);
        Check.due("nothing is his own", x.wins(0), 0);
    }

    static void promise23PeopleAreThoseThere() {
        Edges.asked("wins(5) of six", Edges::peopleAlone, 0, x -> x.wins(5));
        Edges.refusedOutside("wins(?) of six", Edges::full, 0, 5, -1, (x, p) -> x.wins(p));
        Edges.refusedOutside("wins(?) of two", Edges::furnished, 0, 1, -1, (x, p) -> x.wins(p));
        Edges.refusedOutside("wins(?) of none", Edges::garmentsAlone, 0, -1, -1, (x, p) -> x.wins(p));
    }

    // ---- promise 37

    static void promise37GarmentsAreThoseThere() {
        Check.due("the first of eight", Edges.garmentsAlone().wash(0), 1);
        Check.due("the seventh of eight", Edges.garmentsAlone().wash(6), 0);
        Check.due("the eighth of eight", Edges.garmentsAlone().wash(7), 1);
        Edges.refusedOutside("wash(?) of eight", Edges::full, 0, 7, -1, (x, g) -> x.wash(g));
        Edges.refusedOutside("wash(?) of four", Edges::furnished, 0, 3, -1, (x, g) -> x.wash(g));
        Edges.refusedOutside("wash(?) of none", Edges::peopleAlone, 0, -1, -1, (x, g) -> x.wash(g));
    }

    static void promise37From0To12HabitsLeft() {
        Check.due("no habits", dressed(0, 0, 0).wash(0), 0);
        Check.due("all left", dressed(0, 0, 4).wash(0), 12);
        Check.due("none left", dressed(0, 0, 3).wash(0), 0);
        ClothesRemember x = dressed(0, 0, 4);
        x.habit(0, 11, 5, 3);
        x.habit(0, 0, 5, 3);
        Check.due("ten left", x.wash(0), 10);
        Check.due("worn still", x.garmentOf(0, 2), 1);
        Check.due("no day", x.status(4), 0);
    }

    static void promise37SilkIsNeverWashedOfAHabit() {
        ClothesRemember x = dressed(0, 4, 1);
        for (int w = 0; w < 12; w++) {
            Check.due("wash " + w, x.wash(0), 12);
        }
        Check.due("as firm as ever", x.garmentOf(0, 30), 1);
    }

    // ---- promise 38

    static void promise38DaysAre1To60() {
        ClothesRemember x = dressed(0, 0, 0);
        Check.due("one day", x.days(1), 12);
        Check.due("status(4)", x.status(4), 1);
        Check.due("sixty days", x.days(60), 720);
        Check.due("status(4)", x.status(4), 61);
        Edges.refusedOutside("days(?)", Edges::furnished, 1, 60, -6, (y, n) -> y.days(n));
        Edges.refusedOutside("days(?)", Edges::empty, 1, 60, -6, (y, n) -> y.days(n));
    }

    static void promise38FromNoDeedsToAll() {
        ClothesRemember x = new ClothesRemember();
        Check.due("nobody", x.days(60), 0);
        Check.due("status(4)", x.status(4), 60);
        Check.due("garments alone do nothing of people's", Edges.garmentsAlone().days(60), 0);
        for (int p = 0; p < 6; p++) {
            x.person(0);
        }
        Check.due("no deeds", x.days(60), 0);
        for (int p = 0; p < 6; p++) {
            for (int hour = 0; hour < HOURS; hour++) {
                x.own(p, hour, 9);
            }
        }
        Check.due("all deeds of a day", x.days(1), 72);
        Check.due("all deeds", x.days(60), 4320);
        Check.due("status(4)", x.status(4), 181);
    }

    static void promise38EachDayBehindTheOther() {
        // a pull of 1 is not above his will 1; nothing is done, nothing learnt
        ClothesRemember x = dressed(1, 0, 1);
        for (int hour = 1; hour < HOURS; hour++) {
            x.own(0, hour, 0);
        }
        Check.due("his own at hour 0 alone", x.days(3), 3);
        Check.due("that is learnt", x.garmentOf(0, 10), 1);
        Check.due("1, 2, 3", x.garmentOf(0, 30), 3);
        Check.due("not the others", x.garmentOf(0, 41), 1);
    }

    // ---- promise 39

    static void promise39YearsAre1To60() {
        for (int n : new int[] {1, 60}) {
            ClothesRemember x = Edges.full();
            Check.due("years(" + n + ")", x.years(n) >= 0 ? 1 : 0, 1);
            Check.due("days in truth", x.status(4), n);
        }
        Edges.refusedOutside("years(?)", Edges::furnished, 1, 60, -6, (x, n) -> x.years(n));
        Edges.refusedOutside("years(?)", Edges::full, 1, 60, -6, (x, n) -> x.years(n));
    }

    static void promise39NoGarments() {
        Edges.refused("years(1)", Edges::empty, -5, x -> x.years(1));
        Edges.refused("years(60)", Edges::peopleAlone, -5, x -> x.years(60));
        ClothesRemember x = Edges.peopleAlone();
        x.garment(0, 0);
        Check.due("one garment is enough", x.years(1), x.status(2));
    }

    static void promise39RefusalsInTheirOrder() {
        Edges.refused("-5 ahead of -6", Edges::empty, -5, x -> x.years(0));
        Edges.refused("-5 ahead of -6", Edges::peopleAlone, -5, x -> x.years(61));
        Edges.refused("-5 ahead of -6", Edges::peopleAlone, -5, x -> x.years(MIN));
    }

    static void promise39FatesAre0To3() {
        for (int fate = 0; fate <= 3; fate++) {
            ClothesRemember x = new ClothesRemember();
            x.person(0);
            x.person(0);
            x.garment(0, 0);
            x.garment(0, 0);
            for (int g = 0; g < 2; g++) {
                x.habit(g, 0, 5, 4);
                x.wear(g, 0);
            }
            int seed = Draws.seedFor(2, 1, 4, fate, 2, 1);
            x.seed(seed);
            x.years(1);
            boolean isDressed = fate >= 2;
            int behind = Draws.next(Draws.next(seed));
            Check.due("seed of fate " + fate, x.status(5), isDressed ? Draws.next(behind) : behind);
            Check.due("who wears it by fate " + fate, x.garmentOf(1, 2), fate == 0 ? 1 : fate == 1 ? 0 : 2);
            Check.due("who wears the other", x.garmentOf(0, 2), 1);
            Check.due("firm by fate " + fate, x.garmentOf(1, 30), fate == 0 ? 2 : fate == 1 ? 4 : 5);
            Check.due("the other's", x.garmentOf(0, 30), 5);
            Check.due("a day", x.status(4), 1);
        }
    }

    static void promise39WithoutPeopleNoDrawForWhoWearsIt() {
        for (int fate = 0; fate <= 3; fate++) {
            ClothesRemember x = Edges.garmentsAlone();
            int seed = Draws.seedFor(8, 0, 4, fate);
            x.seed(seed);
            x.years(1);
            Check.due("seed of fate " + fate, x.status(5), Draws.next(Draws.next(seed)));
            Check.due("nobody wears it", x.status(3), 0);
            Check.due("washed or not", x.garmentOf(0, 30), fate == 0 ? 6 : 9);
        }
    }

    static void promise39FirstAndLastOfEightAndOfSix() {
        for (int g = 0; g < 8; g += 7) {
            for (int p = 0; p < 6; p += 5) {
                ClothesRemember x = Edges.full();
                x.wear(g, -1);
                x.seed(Draws.seedFor(8, g, 4, 2, 6, p));
                x.years(1);
                Check.due("garment " + g, x.garmentOf(g, 2), p + 1);
            }
        }
    }

    static void promise39TheUpper16BitsHaveNoSign() {
        // seeds on both sides of where a sign would be; a draw below 8, so that a sign would tell
        int below = -1;
        int above = -1;
        for (int seed = 0; seed < 1000 && (below == -1 || above == -1); seed++) {
            boolean isNegative = Draws.next(seed) < 0;
            below = isNegative && Draws.drawn(Draws.next(seed), 3) != 0 ? seed : below;
            above = isNegative ? above : seed;
        }
        for (int seed : new int[] {below, above, 0, -1, MIN, MAX}) {
            ClothesRemember x = threeGowns();
            ClothesRemember y = threeGowns();
            x.seed(seed);
            int at = seed;
            for (int year = 0; year < 60; year++) {
                at = Draws.next(at);
                int g = Draws.drawn(at, 3);
                at = Draws.next(at);
                if (Draws.drawn(at, 4) == 0) {
                    y.wash(g);
                }
                Check.due("habits left behind year " + year, x.years(1), y.status(2));
                Check.due("of that garment behind year " + year, x.garmentOf(g, 10), y.garmentOf(g, 10));
            }
            Check.due("seed " + seed, x.status(5), at);
        }
    }

    private static ClothesRemember threeGowns() {
        ClothesRemember x = new ClothesRemember();
        for (int g = 0; g < 3; g++) {
            x.garment(6, 0);
            x.habit(g, 0, 5, 9);
        }
        return x;
    }

    static void promise39HabitsFrom0ToAll() {
        ClothesRemember x = new ClothesRemember();
        x.garment(0, 0);
        Check.due("none", x.years(60), 0);
        ClothesRemember y = new ClothesRemember();
        for (int g = 0; g < 8; g++) {
            y.garment(4, 0);
            for (int hour = 0; hour < HOURS; hour++) {
                y.habit(g, hour, 9, 1);
            }
        }
        Check.due("all, of silk", y.years(60), 96);
    }

    // ---- promise 40

    static void promise40AnyNumber() {
        ClothesRemember x = new ClothesRemember();
        int before = 1;
        for (int v : new int[] {0, -1, MIN, MAX, 1, 1103515245}) {
            Check.due("what it was", x.seed(v), before);
            Check.due("what it is", x.status(5), v);
            before = v;
        }
        Check.dueRefusals("none", x);
    }

    static void promise40DrawsWrapAround() {
        for (int seed : new int[] {MIN, MAX, -1, 0, 2, -1103515245, 0x7FFF0000, 0x8000FFFF}) {
            ClothesRemember x = new ClothesRemember();
            x.garment(0, 0);
            x.seed(seed);
            x.years(1);
            Check.due("two draws on from " + seed, x.status(5), Draws.next(Draws.next(seed)));
            Check.due("what it was", x.seed(seed), Draws.next(Draws.next(seed)));
        }
    }
}
