/** Boundary cases of promises 41 to 45. */
public final class ImageEdgesTest {
    private static final int MIN = Edges.MIN;
    private static final int MAX = Edges.MAX;
    private static final int HOURS = Edges.HOURS;

    public static void main(String[] args) throws Exception {
        Edges.run(ImageEdgesTest.class);
    }

    // ---- promise 41

    static void promise41GarmentsAreThoseThere() {
        Check.due("the first of eight", Edges.full().act(0, 0, 5), 5);
        Check.due("the eighth of eight, a uniform of a 2", Edges.full().act(7, 0, 5), 14);
        for (Edges.World world : new Edges.World[] {Edges::empty, Edges::peopleAlone}) {
            Edges.askedOutside("act(?, 0, 1) of none", world, 0, -1, 0, (x, g) -> x.act(g, 0, 1));
        }
        for (int g : new int[] {-1, 4, MIN, MAX}) {
            ClothesRemember x = Edges.furnished();
            Check.due("act(" + g + ", 0, 1)", x.act(g, 0, 1), 0);
            Check.due("no bodies", x.status(6), 0);
            Check.due("no trace", x.trace(0), -1);
            Check.dueRefusals("nothing is refused", x, 0, 0, 0, 0, 0, 1);
        }
    }

    static void promise41MovesAre0To2() {
        int[] due = {12, 24, 24 ^ 8};
        for (int move = 0; move <= 2; move++) {
            ClothesRemember x = new ClothesRemember();
            x.garment(0, 3);
            x.garment(0, 4);
            Check.due("move " + move, x.act(1, move, 11), due[move]);
        }
        for (int move : Edges.outside(0, 2)) {
            ClothesRemember x = Edges.furnished();
            Check.due("move " + move, x.act(0, move, 1), 0);
            Check.due("no bodies", x.status(6), 0);
            Check.due("no trace", x.trace(0), -1);
            Check.dueRefusals("nothing is refused", x, 0, 0, 0, 0, 0, 1);
        }
    }

    static void promise41NothingElseIsChanged() {
        ClothesRemember x = Edges.furnished();
        ClothesRemember same = Edges.furnished();
        for (int g = 0; g < 4; g++) {
            for (int move = 0; move <= 2; move++) {
                x.act(g, move, MAX);
            }
        }
        Check.due("people and garments", Worlds.all(x).equals(Worlds.all(same)) ? 1 : 0, 1);
    }

    static void promise41XWrapsAround() {
        ClothesRemember x = new ClothesRemember();
        for (int g = 0; g < 8; g++) {
            x.garment(g % 7, 9);
        }
        Check.due("a garment's x + m, m 7", x.act(7, 0, MAX), MIN + 6);
        Check.due("times 2", x.act(0, 1, MAX), -2);
        Check.due("times 2", x.act(0, 1, MIN), 0);
        Check.due("below MIN", x.act(0, 2, MIN), (MIN - 9) ^ 0);
        Check.due("a coat's + k", x.act(1, 0, MAX), MIN + 9);
        Check.due("a shirt's times 3", x.act(2, 1, MAX), (MIN + 1) * 2 * 3);
        Check.due("a uniform's x + 1", x.act(3, 1, MAX), (MIN + 3 + 9) * 2);
        Check.due("a uniform that fades", x.act(3, 2, MAX), (MIN + 3 + 9) * 2 ^ MIN + 2);
        Check.due("a coat that fades", x.act(1, 2, MIN), (MIN + 10) * 2 ^ MIN + 1);
        Check.due("a shirt that fades", x.act(2, 2, MIN), (MIN + 2) * 6 ^ MAX - 6);
        Check.due("silk's minus m", x.act(4, 0, MIN), MIN);
        Check.due("silk's minus of MIN", x.act(4, 2, MIN + 9), -((2 * (MIN + 9)) ^ MIN));
        Check.due("a rag's", x.act(5, 2, MAX), ((MIN + 4) * 6) ^ (MAX - 4) ^ 5);
        Check.due("a gown's x - k", x.act(6, 1, MIN), (MIN - 9) * 4);
    }

    static void promise41AFrom0To9() {
        for (int a = 0; a <= 9; a++) {
            ClothesRemember x = new ClothesRemember();
            x.garment(1, a);
            Check.due("a coat of a " + a, x.act(0, 0, 100), 100 + a);
            Check.due("its fading", x.act(0, 2, 100), 2 * (100 + a) ^ 100);
        }
    }

    // ---- promise 42

    static void promise42FromTheFirstToTheLastBody() {
        int[] due = {50, 12, 71, 11, 70, 51, 10, 70, 51, 10};
        ClothesRemember x = Edges.furnished();
        x.act(3, 2, 0);
        for (int i = 0; i < due.length; i++) {
            Check.due("body " + i, x.trace(i), due[i]);
        }
        Edges.askedOutside("trace(?)", Edges::furnished, 0, 9, -1, (y, i) -> y.trace(i));
        Edges.asked("trace(19)", Edges::furnished, -1, y -> y.trace(19));
        Edges.asked("trace(20)", Edges::furnished, -1, y -> y.trace(20));
    }

    static void promise42OfTheLatestActAlone() {
        ClothesRemember x = Edges.furnished();
        x.act(1, 0, 0);
        Check.due("the only one", x.trace(0), 10);
        Check.due("none of the former", x.trace(1), -1);
        x.act(4, 0, 0);
        Check.due("none behind no such garment", x.trace(0), -1);
        x.act(0, 0, 0);
        Check.due("a coat's first", x.trace(0), 20);
        Check.due("and the next above", x.trace(1), 10);
        x.act(0, 3, 0);
        Check.due("none behind no such move", x.trace(0), -1);
    }

    static void promise42NoneYet() {
        for (int i : new int[] {0, 1, 19, 20, -1, MIN, MAX}) {
            Edges.asked("trace(" + i + ")", Edges::empty, -1, x -> x.trace(i));
            Edges.asked("trace(" + i + ")", Edges::full, -1, x -> x.trace(i));
        }
    }

    /** The longest move there is runs ten bodies, so that twenty are never reached. */
    static void promise42AllThatRunAreKept() {
        int most = 0;
        for (int kind = 0; kind <= 6; kind++) {
            for (int move = 0; move <= 2; move++) {
                ClothesRemember x = new ClothesRemember();
                x.garment(kind, 1);
                x.act(0, move, 1);
                int ran = x.status(6);
                most = Math.max(most, ran);
                Check.due("the last of kind " + kind + " move " + move, x.trace(ran - 1), 10);
                Check.due("none behind it", x.trace(ran), -1);
            }
        }
        Check.due("the most", most, 10);
    }

    // ---- promise 43

    static void promise43FromNoGarmentsToEight() {
        ClothesRemember x = new ClothesRemember();
        for (int g = 0; g <= 8; g++) {
            Check.due("image of " + g, x.image(), g);
            x.garment(0, 0);
        }
        Edges.asked("image()", Edges::empty, 0, y -> y.image());
        Edges.asked("image()", Edges::peopleAlone, 0, y -> y.image());
        Edges.asked("image()", Edges::full, 8, y -> y.image());
    }

    static void promise43TheLatestCounts() {
        ClothesRemember x = new ClothesRemember();
        x.image();
        x.person(4);
        x.image();
        x.person(5);
        Check.due("restored", x.restore(), 0);
        Check.due("one of the people", x.status(1), 1);
        x.garment(0, 0);
        Check.due("again", x.image(), 1);
        Check.due("restored", x.restore(), 1);
        Check.due("a garment", x.status(0), 1);
    }

    static void promise43WhatComesLaterIsNotInIt() {
        ClothesRemember x = Edges.full();
        x.image();
        String before = Worlds.all(x);
        ClothesRemember y = Edges.full();
        y.image();
        for (int g = 0; g < 8; g++) {
            y.habit(g, 0, 9, 9);
            y.wear(g, 5);
        }
        for (int p = 0; p < 6; p++) {
            y.will(p, 0);
            y.own(p, 11, 9);
        }
        y.wash(0);
        y.days(1);
        y.years(1);
        y.seed(MAX);
        y.restore();
        Check.due("all as it was", Worlds.all(y).equals(before) ? 1 : 0, 1);
    }

    // ---- promise 44

    static void promise44ThereIsNone() {
        Edges.refused("restore() of a new one", Edges::empty, -6, x -> x.restore());
        Edges.refused("restore() without an image", Edges::garmentsAlone, -6, x -> x.restore());
        Edges.refused("restore() without an image", Edges::peopleAlone, -6, x -> x.restore());
        ClothesRemember x = new ClothesRemember();
        x.image();
        Check.due("of nothing", x.restore(), 0);
        Check.dueRefusals("of nothing", x);
    }

    static void promise44AsOftenAsAsked() {
        ClothesRemember x = Edges.full();
        for (int time = 0; time < 3; time++) {
            Check.due("restored", x.restore(), 8);
            Check.due("the seed of the image", x.status(5), 1);
            Check.due("who wore it then", x.garmentOf(7, 2), 0);
            x.seed(8);
            x.wear(7, 3);
        }
    }

    static void promise44FromEightGarmentsToNone() {
        ClothesRemember x = new ClothesRemember();
        x.image();
        for (int g = 0; g < 8; g++) {
            x.garment(0, 0);
            x.show(g, g);
        }
        Check.due("none", x.restore(), 0);
        for (int s = 0; s < 8; s++) {
            Check.due("shelf " + s, x.holds(s), -1);
        }
        Check.due("room for eight again", x.garment(6, 0), 0);
        Check.due("a shelf stays empty", x.holds(0), -1);
    }

    static void promise44FromNoGarmentsToEight() {
        ClothesRemember x = new ClothesRemember();
        for (int g = 0; g < 8; g++) {
            x.garment(0, 0);
        }
        x.image();
        Check.due("eight", x.restore(), 8);
        Check.due("no ninth", x.garment(0, 0), -7);
    }

    static void promise44ShelvesWithGarments() {
        for (int kept = 0; kept <= 8; kept++) {
            ClothesRemember x = new ClothesRemember();
            for (int g = 0; g < kept; g++) {
                x.garment(g % 7, g);
            }
            x.image();
            for (int g = kept; g < 8; g++) {
                x.garment(0, 0);
            }
            for (int s = 0; s < 8; s++) {
                x.show(s, 7 - s);
            }
            Check.due("kept", x.restore(), kept);
            for (int s = 0; s < 8; s++) {
                Check.due("shelf " + s + " of " + kept, x.holds(s), 7 - s < kept ? 7 - s : -1);
            }
        }
    }

    static void promise44RowsStay() {
        ClothesRemember x = new ClothesRemember();
        x.image();
        for (int s = 0; s < 8; s++) {
            Check.fill(x, s, s % 4, s, 100 - s);
        }
        x.row(7, 3, 0);
        x.restore();
        for (int s = 0; s < 7; s++) {
            Check.due("sort of " + s, x.holds(s), 100 + s % 4);
            Check.due("first of " + s, x.element(s, 0), s);
            Check.due("last of " + s, x.element(s, 1), 100 - s);
        }
        Check.due("an empty row", x.holds(7), 103);
        Check.due("rows made behind the image", x.set(0, 1, 5), 1);
    }

    static void promise44GarmentsAreThoseOfTheImage() {
        ClothesRemember x = new ClothesRemember();
        x.garment(4, 1);
        x.show(0, 0);
        x.image();
        x.habit(0, 3, 3, 3);
        Check.due("a habit", x.says(0, 0), 1);
        x.restore();
        Check.due("none then", x.says(0, 0), 0);
        Check.due("twelve hours without", x.says(0, 4), 12);
    }

    static void promise44WhatIsNotOfTheImageStays() {
        ClothesRemember x = Edges.furnished();
        ClothesRemember same = Edges.furnished();
        x.restore();
        Check.due("the fault", x.fault(), same.fault());
        Check.due("the bodies", x.status(6), same.status(6));
        for (int i = 0; i < 10; i++) {
            Check.due("the trace", x.trace(i), same.trace(i));
        }
        for (int what = 11; what <= 17; what++) {
            Check.due("refusals", x.status(what), same.status(what));
        }
        Check.due("seed of the image", x.status(5), 77);
        Check.due("days of the image", x.status(4), 2);
    }

    static void promise44APersonOfALaterTimeIsGone() {
        ClothesRemember x = new ClothesRemember();
        x.garment(0, 0);
        x.image();
        for (int p = 0; p < 6; p++) {
            x.person(p);
        }
        x.wear(0, 5);
        x.restore();
        Check.due("nobody", x.status(1), 0);
        Check.due("nobody wears it", x.garmentOf(0, 2), 0);
        Check.due("room again", x.person(9), 0);
    }

    // ---- promise 45

    static void promise45WhatIs0To6And11To17() {
        Edges.askedOutside("status(?)", Edges::furnished, 0, 6, -1, (x, what) -> x.status(what));
        for (int what : new int[] {7, 8, 9, 10, 18, 19, 20, 27, 30}) {
            Edges.asked("status(" + what + ")", Edges::furnished, -1, x -> x.status(what));
        }
        int[] due = {4, 2, 0, 2, 3, 5, 10};
        for (int what = 0; what <= 6; what++) {
            int of = what;
            long want = what == 2 ? Edges.furnished().status(2) : due[what];
            Edges.asked("status(" + what + ")", Edges::furnished, want, x -> x.status(of));
        }
    }

    static void promise45FromNothingToAll() {
        ClothesRemember x = new ClothesRemember();
        for (int g = 0; g < 8; g++) {
            x.garment(0, 0);
            for (int hour = 0; hour < HOURS; hour++) {
                x.habit(g, hour, 1, 1);
            }
        }
        Check.due("no people", x.status(1), 0);
        Check.due("none worn", x.status(3), 0);
        for (int p = 0; p < 6; p++) {
            x.person(0);
        }
        for (int g = 0; g < 8; g++) {
            x.wear(g, 5);
            Check.due("worn", x.status(3), g + 1);
        }
        Check.due("garments", x.status(0), 8);
        Check.due("people", x.status(1), 6);
        Check.due("habits", x.status(2), 96);
        x.wear(0, -1);
        Check.due("one is off", x.status(3), 7);
    }

    static void promise45EachRefusalIsCountedAsItsNumber() {
        ClothesRemember x = new ClothesRemember();
        int[] due = new int[7];
        for (int time = 1; time <= 3; time++) {
            x.row(-1, 0, 0);
            due[0]++;
            x.show(0, -1);
            x.garment(0, 0);
            x.show(1, 0);
            x.set(1, 0, 0);
            due[1]++;
            x.set(0, 0, 0);
            due[2]++;
            x.row(0, 0, -1);
            due[3]++;
            x.garmentOf(9, 0);
            due[4]++;
            x.person(10);
            due[5]++;
            x.row(0, 0, 161);
            due[6]++;
            Check.dueRefusals("time " + time, x, due);
        }
    }

    static void promise45LowerAnswersAreCountedAsTheirNumbers() {
        ClothesRemember x = new ClothesRemember();
        x.person(0);
        x.garment(0, 0);
        x.show(1, 0);
        x.row(2, 0, 11);
        x.row(3, 0, 12);
        x.set(3, 0, 10);
        Check.due("wear", x.wear(1, 0), -11);
        Check.due("whose", x.whose(1), -11);
        Check.due("washed", x.washed(1, 0), -11);
        Check.due("home", x.home(1), -11);
        Check.due("cure", x.cure(1, 0), -11);
        Check.due("judge", x.judge(3, 1), -11);
        Check.due("taught", x.taught(3, 1), -11);
        Check.dueRefusals("nobody", x, 7);
        Check.due("judge", x.judge(1, 0), -12);
        Check.due("taught", x.taught(1, 0), -12);
        Check.dueRefusals("a garment", x, 7, 2);
        Check.due("judge", x.judge(0, 0), -13);
        Check.due("taught", x.taught(0, 0), -13);
        Check.dueRefusals("nothing", x, 7, 2, 2);
        Check.due("cure", x.cure(0, 2), -15);
        Check.due("judge", x.judge(2, 0), -15);
        Check.due("taught", x.taught(2, 0), -15);
        Check.dueRefusals("beyond", x, 7, 2, 2, 0, 3);
        Check.due("washed", x.washed(0, 12), -16);
        Check.due("taught", x.taught(3, 0), -16);
        Check.dueRefusals("wrong", x, 7, 2, 2, 0, 3, 2);
    }

    static void promise45NoneIsNoRefusal() {
        ClothesRemember x = new ClothesRemember();
        x.person(0);
        x.garment(4, 0);
        x.habit(0, 0, 5, 9);
        x.row(0, 0, 12);
        x.set(0, 0, 4);
        x.wear(0, 0);
        Check.due("whose", x.whose(0), -1);
        Check.due("washed", x.washed(0, 0), -1);
        Check.due("home", x.home(0), -1);
        Check.due("cure", x.cure(0, 0), -1);
        Check.due("taught", x.taught(0, 0), -1);
        Check.due("holds", x.holds(1), -1);
        Check.due("trace", x.trace(0), -1);
        Check.due("status", x.status(7), -1);
        x.wear(0, -1);
        Check.due("wear", x.wear(0, 0), -1);
        x.set(0, 0, 5);
        Check.due("judge", x.judge(0, 0), -1);
        Check.dueRefusals("none of these", x);
    }
}
