/** Boundary cases of promises 17 and 18. */
public final class TextsEdgesTest {
    public static void main(String[] args) throws Exception {
        Edges.run(TextsEdgesTest.class);
    }

    /** Two people and three garments; nothing on shelves. */
    private static ClothesRemember few() {
        ClothesRemember x = new ClothesRemember();
        x.person(1);
        x.person(2);
        x.garment(0, 0);
        x.garment(2, 5);
        x.garment(6, 9);
        x.habit(0, 3, 4, 5);
        x.wear(0, 1);
        x.own(1, 5, 6);
        x.image();
        return x;
    }

    /** The text can be told whole over a world. */
    private static void dueTold(Edges.World world, String text) {
        ClothesRemember x = world.made();
        Check.due("told: " + text, Check.tell(x, text), text.split(";").length);
        Check.due("no fault in: " + text, x.fault(), -1);
        Check.dueRefusals("told: " + text, x);
    }

    /** The text has its fault there; nothing is told of it, and nothing has changed. */
    private static void dueFault(Edges.World world, String text, int fault) {
        ClothesRemember x = world.made();
        Check.due("told: " + text, Check.tell(x, text), -6);
        Check.due("fault in: " + text, x.fault(), fault);
        Check.dueRefusals("told: " + text, x, 0, 0, 0, 0, 0, 1);
        ClothesRemember same = world.made();
        Check.due("as it was: " + text, Worlds.all(x).equals(Worlds.all(same)) ? 1 : 0, 1);
    }

    private static ClothesRemember six() {
        ClothesRemember x = new ClothesRemember();
        for (int p = 0; p < 6; p++) {
            x.person(p);
        }
        return x;
    }

    private static ClothesRemember eight() {
        ClothesRemember x = new ClothesRemember();
        for (int g = 0; g < 8; g++) {
            x.garment(g % 7, g);
        }
        return x;
    }

    private static ClothesRemember sixAndEight() {
        ClothesRemember x = eight();
        for (int p = 0; p < 6; p++) {
            x.person(p);
        }
        return x;
    }

    // ---- promise 17: refusals

    static void promise17NoSuchShelf() {
        Edges.refusedOutside("wardrobe(?)", Edges::furnished, 0, 7, -1, (x, s) -> x.wardrobe(s));
        ClothesRemember x = new ClothesRemember();
        Check.write(x, 0, "day");
        Check.due("the first shelf", x.wardrobe(0), 1);
        Check.write(x, 7, "day");
        Check.due("the last shelf", x.wardrobe(7), 1);
    }

    static void promise17AGarmentIsNoText() {
        Edges.refused("wardrobe(1)", Edges::furnished, -2, x -> x.wardrobe(1));
        Edges.refused("wardrobe(5)", Edges::furnished, -2, x -> x.wardrobe(5));
    }

    static void promise17NothingIsNoText() {
        Edges.refused("wardrobe(2)", Edges::furnished, -3, x -> x.wardrobe(2));
        Edges.refused("wardrobe(0)", Edges::empty, -3, x -> x.wardrobe(0));
    }

    static void promise17AFaultChangesNothingElse() {
        // shelf 6 of this world has the very fault that is the latest already
        Edges.refused("wardrobe(6)", Edges::furnished, -6, x -> x.wardrobe(6));
        dueFault(TextsEdgesTest::few, "person 9;garment 6 0;own 0 0 9;habit 0 0 9 9;wear 0 0;off 0;wash 0;day;x", 71);
        dueFault(TextsEdgesTest::few, "wear 1 0;off 0;day;own 1 5 0;habit 0 3 1 1;", 43);
        ClothesRemember x = few();
        Check.tell(x, "person 9;garment 6 0;wash 0;x");
        Check.due("the image stays", x.restore(), 3);
        Check.due("as it was", Worlds.all(x).equals(Worlds.all(few())) ? 1 : 0, 1);
    }

    static void promise17AToldTextChangesNoImage() {
        ClothesRemember x = few();
        Check.tell(x, "person 9;garment 6 0;habit 0 0 9 9;wear 0 0;day");
        x.restore();
        Check.due("as it was", Worlds.all(x).equals(Worlds.all(few())) ? 1 : 0, 1);
    }

    // ---- promise 17: how long

    static void promise17AnEmptyRow() {
        for (int sort = 0; sort <= 3; sort++) {
            ClothesRemember x = few();
            x.row(0, sort, 0);
            Check.due("an empty row", x.wardrobe(0), -6);
            Check.due("its fault", x.fault(), 0);
        }
    }

    static void promise17AFullRow() {
        String days = "day;".repeat(39);
        dueTold(TextsEdgesTest::few, days + "day");
        dueFault(TextsEdgesTest::few, days + "day;", 160);
        dueFault(TextsEdgesTest::few, days + "dayx", 159);
        dueTold(TextsEdgesTest::few, "day;".repeat(38) + "person 0");
        dueFault(TextsEdgesTest::few, "day;".repeat(38) + "wear 0 ;", 159);
        dueFault(TextsEdgesTest::few, "day;".repeat(38) + "wear 00 ", 160);
        dueFault(TextsEdgesTest::few, "day;".repeat(38) + "garment ", 160);
    }

    static void promise17ManyItems() {
        ClothesRemember x = few();
        Check.due("forty days", Check.tell(x, "day;".repeat(39) + "day"), 40);
        Check.due("in truth", x.status(4), 40);
    }

    static void promise17OneItemIsEnough() {
        for (String text : new String[] {"person 0", "garment 0 0", "own 0 0 0", "habit 0 0 1 1", "wear 0 0", "off 0",
            "wash 0", "day"}) {
            dueTold(TextsEdgesTest::few, text);
            dueFault(TextsEdgesTest::few, text + ";", text.length() + 1);
            dueFault(TextsEdgesTest::few, ";" + text, 0);
            dueFault(TextsEdgesTest::few, text + ";;" + text, text.length() + 1);
        }
    }

    static void promise17ItemsInTheirOrder() {
        dueTold(Edges::empty, "person 1;garment 1 1;wear 0 0;own 0 0 1;habit 0 0 1 1;day;off 0;wash 0");
        dueFault(Edges::empty, "wear 0 0;person 1;garment 1 1", 5);
        dueFault(Edges::empty, "garment 1 1;wear 0 0;person 1", 19);
        dueFault(Edges::empty, "person 1;own 1 0 0;person 1", 13);
        ClothesRemember x = few();
        Check.due("wash ahead of a habit", Check.tell(x, "wash 0;habit 0 0 1 1"), 2);
        Check.due("still there", x.garmentOf(0, 30), 1);
        Check.due("wash behind a habit", Check.tell(x, "habit 0 0 1 3;wash 0"), 2);
        Check.due("gone", x.garmentOf(0, 30), 0);
        Check.due("off ahead of a day", Check.tell(x, "own 1 9 1;off 0;day;wear 0 1"), 4);
        Check.due("nothing learnt", x.garmentOf(0, 19), 0);
    }

    // ---- promise 17: what the items do at their ends

    static void promise17WhatItemsTell() {
        ClothesRemember x = sixAndEight();
        Check.tell(x, "own 5 11 9;own 0 0 1;own 0 0 0;habit 7 11 9 9;habit 0 0 1 1;wear 7 5;wear 0 0");
        Check.due("own", x.personOf(5, 21), 9);
        Check.due("own 0", x.personOf(0, 10), 0);
        Check.due("habit", x.garmentOf(7, 21), 9);
        Check.due("firm", x.garmentOf(7, 41), 9);
        Check.due("habit", x.garmentOf(0, 10), 1);
        Check.due("firm", x.garmentOf(0, 30), 1);
        Check.due("wears", x.garmentOf(7, 2), 6);
        Check.due("wears", x.garmentOf(0, 2), 1);
        Check.tell(x, "off 7;off 7");
        Check.due("off", x.garmentOf(7, 2), 0);
        Check.due("people", Check.tell(new ClothesRemember(), "person 0;person 9"), 2);
    }

    /** The text tells just what the call does. */
    private static void dueAsCalled(String text, Edges.Call call) {
        ClothesRemember x = sixAndEight();
        ClothesRemember same = sixAndEight();
        for (ClothesRemember one : new ClothesRemember[] {x, same}) {
            for (int g = 0; g < 8; g++) {
                one.habit(g, g, 9 - g, 9 - g);
                one.wear(g, g % 7 - 1);
            }
            one.own(3, 3, 5);
        }
        Check.due(text, Check.tell(x, text), 1);
        call.on(same);
        Check.due(text + " tells just that", Worlds.all(x).equals(Worlds.all(same)) ? 1 : 0, 1);
    }

    static void promise17EachItemTellsJustThat() {
        dueAsCalled("own 5 2 8", x -> x.own(5, 2, 8));
        dueAsCalled("own 0 11 0", x -> x.own(0, 11, 0));
        dueAsCalled("habit 7 2 4 5", x -> x.habit(7, 2, 4, 5));
        dueAsCalled("habit 0 11 9 1", x -> x.habit(0, 11, 9, 1));
        dueAsCalled("wear 7 2", x -> x.wear(7, 2));
        dueAsCalled("wear 0 5", x -> x.wear(0, 5));
        dueAsCalled("off 6", x -> x.wear(6, -1));
        dueAsCalled("off 0", x -> x.wear(0, -1));
        dueAsCalled("wash 3", x -> x.wash(3));
        dueAsCalled("wash 7", x -> x.wash(7));
        dueAsCalled("day", x -> x.days(1));
    }

    static void promise17NewOnesAreNew() {
        ClothesRemember x = new ClothesRemember();
        x.image();
        Check.tell(x, "person 9;garment 4 9;wear 0 0;own 0 0 9;own 0 11 8;habit 0 0 9 9;habit 0 11 9 9;day");
        x.restore();
        Check.tell(x, "person 3;garment 2 1");
        Check.due("will", x.personOf(0, 0), 3);
        Check.due("kind", x.garmentOf(0, 0), 2);
        Check.due("a", x.garmentOf(0, 1), 1);
        Check.due("nobody wears it", x.garmentOf(0, 2), 0);
        Check.due("no habits", x.status(2), 0);
        Check.due("no own deed", x.personOf(0, 10) + x.personOf(0, 21), 0);
    }

    static void promise17DaysOfNobody() {
        ClothesRemember x = new ClothesRemember();
        Check.due("a day of nobody", Check.tell(x, "day;day"), 2);
        Check.due("in truth", x.status(4), 2);
    }

    // ---- promise 17: room

    static void promise17RoomForSixPeople() {
        dueTold(Edges::empty, "person 0;person 1;person 2;person 3;person 4;person 5");
        dueFault(Edges::empty, "person 0;person 1;person 2;person 3;person 4;person 5;person 6", 54);
        dueTold(TextsEdgesTest::few, "person 0;person 1;person 2;person 3");
        dueFault(TextsEdgesTest::few, "person 0;person 1;person 2;person 3;person 4", 36);
        dueTold(TextsEdgesTest::six, "garment 0 0");
    }

    static void promise17RoomForEightGarments() {
        String two = "garment 0 0;garment 6 9";
        dueTold(Edges::empty, two + ";" + two + ";" + two + ";" + two);
        dueFault(Edges::empty, two + ";" + two + ";" + two + ";" + two + ";garment 0 0", 96);
        dueTold(TextsEdgesTest::eight, "person 0");
        dueFault(TextsEdgesTest::eight, "garment 0 0", 0);
    }

    // ---- promise 18

    static void promise18NoneAtFirst() {
        Check.due("none yet", new ClothesRemember().fault(), -1);
    }

    static void promise18ThatOfTheLatestRow() {
        ClothesRemember x = few();
        Check.tell(x, "day;d");
        Check.due("a fault", x.fault(), 5);
        Check.due("no shelf", x.wardrobe(8), -1);
        Check.due("stays without a shelf", x.fault(), 5);
        x.show(0, 0);
        Check.due("a garment", x.wardrobe(0), -2);
        Check.due("stays with a garment", x.fault(), 5);
        Check.due("nothing", x.wardrobe(1), -3);
        Check.due("stays with nothing", x.fault(), 5);
        Check.tell(x, "day");
        Check.due("none by a good text", x.fault(), -1);
        x.wardrobe(8);
        Check.due("none still", x.fault(), -1);
        Check.tell(x, "x");
        Check.due("a fault again", x.fault(), 0);
    }

    static void promise18NothingIsRefused() {
        Edges.asked("fault()", Edges::furnished, 4, x -> x.fault());
        Edges.asked("fault()", Edges::empty, -1, x -> x.fault());
    }

    static void promise18WordsLetterByLetter() {
        String[] words = {"person", "garment", "own", "habit", "wear", "off", "wash", "day"};
        for (String word : words) {
            for (int n = 0; n < word.length(); n++) {
                dueFault(TextsEdgesTest::few, word.substring(0, n), n);
                dueFault(TextsEdgesTest::few, word.substring(0, n) + ";" + word, n);
                dueFault(TextsEdgesTest::few, "off 0;" + word.substring(0, n) + "Z", 6 + n);
                dueFault(TextsEdgesTest::few, word.substring(0, n) + (char) (word.charAt(n) - 32), n);
            }
        }
    }

    static void promise18WordsThatBeginAlike() {
        dueFault(TextsEdgesTest::few, "wesh 0", 2);
        dueFault(TextsEdgesTest::few, "waar 0 0", 2);
        dueFault(TextsEdgesTest::few, "weash 0", 3);
        dueFault(TextsEdgesTest::few, "wasar 0 0", 3);
        dueFault(TextsEdgesTest::few, "ofn 0 0 0", 2);
        dueFault(TextsEdgesTest::few, "owf 0", 2);
        dueFault(TextsEdgesTest::few, "w", 1);
        dueFault(TextsEdgesTest::few, "o", 1);
    }

    static void promise18AWordGoesOnWithABlank() {
        for (String word : new String[] {"person", "garment", "own", "habit", "wear", "off", "wash"}) {
            int n = word.length();
            dueFault(TextsEdgesTest::few, word, n);
            dueFault(TextsEdgesTest::few, word + "0", n);
            dueFault(TextsEdgesTest::few, word + ";", n);
            dueFault(TextsEdgesTest::few, word + " ", n + 1);
            dueFault(TextsEdgesTest::few, word + "  0", n + 1);
            dueFault(TextsEdgesTest::few, word + " ;", n + 1);
            dueFault(TextsEdgesTest::few, word + " x", n + 1);
            dueFault(TextsEdgesTest::few, word + " -1", n + 1);
            dueFault(TextsEdgesTest::few, word + "\t0", n);
        }
        dueFault(TextsEdgesTest::few, "day ", 3);
        dueFault(TextsEdgesTest::few, "day 0", 3);
        dueFault(TextsEdgesTest::few, " day", 0);
        dueFault(TextsEdgesTest::few, "day; day", 4);
        dueFault(TextsEdgesTest::few, "day ;day", 3);
    }

    static void promise18NumbersGoOnWithABlank() {
        dueFault(TextsEdgesTest::few, "garment 0", 9);
        dueFault(TextsEdgesTest::few, "garment 0;", 9);
        dueFault(TextsEdgesTest::few, "garment 0 ", 10);
        dueFault(TextsEdgesTest::few, "garment 0  0", 10);
        dueFault(TextsEdgesTest::few, "garment 0x0", 9);
        dueFault(TextsEdgesTest::few, "own 0 0", 7);
        dueFault(TextsEdgesTest::few, "own 0 0 ", 8);
        dueFault(TextsEdgesTest::few, "own 0 0;", 7);
        dueFault(TextsEdgesTest::few, "habit 0 0 1", 11);
        dueFault(TextsEdgesTest::few, "habit 0 0 1 ", 12);
        dueFault(TextsEdgesTest::few, "habit 0 0 1;", 11);
        dueFault(TextsEdgesTest::few, "wear 0", 6);
        dueFault(TextsEdgesTest::few, "wear 0 ", 7);
        dueFault(TextsEdgesTest::few, "wear 0;", 6);
    }

    static void promise18BehindTheLastNumber() {
        for (String text : new String[] {"person 0", "garment 0 0", "own 0 0 0", "habit 0 0 1 1", "wear 0 0", "off 0",
            "wash 0", "day"}) {
            dueFault(TextsEdgesTest::few, text + " ", text.length());
            dueFault(TextsEdgesTest::few, text + " 0", text.length());
            dueFault(TextsEdgesTest::few, text + ",", text.length());
            dueFault(TextsEdgesTest::few, text + text, text.length());
            dueFault(TextsEdgesTest::few, text + "; ", text.length() + 1);
        }
    }

    static void promise18DigitsAre0To9() {
        dueFault(TextsEdgesTest::few, "person /", 7);
        dueFault(TextsEdgesTest::few, "person :", 7);
        dueFault(TextsEdgesTest::few, "person 0/", 8);
        dueFault(TextsEdgesTest::few, "person 0:", 8);
        dueFault(TextsEdgesTest::few, "own 0 : 0", 6);
        dueFault(TextsEdgesTest::few, "own 0 ; 0", 6);
        dueFault(TextsEdgesTest::few, "own 0 1: 0", 7);
        dueFault(TextsEdgesTest::few, "own 0 0/ 0", 7);
        dueFault(TextsEdgesTest::few, "own 0 1/ 0", 7);
        dueTold(TextsEdgesTest::few, "person 0");
        dueTold(TextsEdgesTest::few, "person 9");
    }

    static void promise18OneOrTwoDigits() {
        dueTold(TextsEdgesTest::few, "person 00;person 09;garment 00 00;garment 06 09;own 00 00 00;own 01 11 09");
        dueTold(TextsEdgesTest::few, "habit 00 00 01 01;habit 02 11 09 09;wear 00 00;wear 02 01;off 02;wash 02");
        dueFault(TextsEdgesTest::few, "person 000", 9);
        dueFault(TextsEdgesTest::few, "garment 000 0", 10);
        dueFault(TextsEdgesTest::few, "garment 0 000", 12);
        dueFault(TextsEdgesTest::few, "own 000 0 0", 6);
        dueFault(TextsEdgesTest::few, "own 0 000 0", 8);
        dueFault(TextsEdgesTest::few, "own 0 0 000", 10);
        dueFault(TextsEdgesTest::few, "own 0 011 0", 8);
        dueFault(TextsEdgesTest::few, "habit 000 0 1 1", 8);
        dueFault(TextsEdgesTest::few, "habit 0 110 1 1", 10);
        dueFault(TextsEdgesTest::few, "habit 0 0 010 1", 12);
        dueFault(TextsEdgesTest::few, "habit 0 0 1 010", 14);
        dueFault(TextsEdgesTest::few, "wear 000 0", 7);
        dueFault(TextsEdgesTest::few, "wear 0 000", 9);
        dueFault(TextsEdgesTest::few, "off 000", 6);
        dueFault(TextsEdgesTest::few, "wash 000", 7);
    }

    static void promise18ANumberThatMayNotBeAheadOfAThirdDigit() {
        dueFault(TextsEdgesTest::few, "person 100", 7);
        dueFault(TextsEdgesTest::few, "own 0 120 0", 6);
        dueFault(TextsEdgesTest::few, "habit 0 0 001 1", 10);
        dueFault(TextsEdgesTest::few, "off 030", 4);
    }

    /** The last number that may be and the first that may not, as one and as two digits; N stands for it. */
    private static void dueNumbers(Edges.World world, String text, int least, int most) {
        int place = text.indexOf('N');
        for (int number = 0; number <= 99; number++) {
            String[] ways = number < 10 ? new String[] {"" + number, "0" + number} : new String[] {"" + number};
            for (String way : ways) {
                if (number >= least && number <= most) {
                    dueTold(world, text.replace("N", way));
                } else {
                    dueFault(world, text.replace("N", way), place);
                }
            }
        }
    }

    static void promise18WillsAre0To9() {
        dueNumbers(TextsEdgesTest::few, "person N", 0, 9);
    }

    static void promise18KindsAre0To6() {
        dueNumbers(TextsEdgesTest::few, "garment N 0", 0, 6);
    }

    static void promise18AIs0To9() {
        dueNumbers(TextsEdgesTest::few, "garment 0 N", 0, 9);
    }

    static void promise18HoursAre0To11() {
        dueNumbers(TextsEdgesTest::few, "own 0 N 0", 0, 11);
        dueNumbers(TextsEdgesTest::few, "habit 0 N 1 1", 0, 11);
    }

    static void promise18OwnDeedsAre0To9() {
        dueNumbers(TextsEdgesTest::few, "own 0 0 N", 0, 9);
    }

    static void promise18HabitsAre1To9() {
        dueNumbers(TextsEdgesTest::few, "habit 0 0 N 1", 1, 9);
    }

    static void promise18HowFirmIs1To9() {
        dueNumbers(TextsEdgesTest::few, "habit 0 0 1 N", 1, 9);
    }

    static void promise18PeopleAreThoseThere() {
        for (String text : new String[] {"own N 0 0", "wear 0 N"}) {
            dueNumbers(TextsEdgesTest::few, text, 0, 1);
            dueNumbers(TextsEdgesTest::sixAndEight, text, 0, 5);
            dueNumbers(TextsEdgesTest::eight, text, 0, -1);
        }
    }

    static void promise18GarmentsAreThoseThere() {
        for (String text : new String[] {"habit N 0 1 1", "wear N 0", "off N", "wash N"}) {
            dueNumbers(TextsEdgesTest::few, text, 0, 2);
            dueNumbers(TextsEdgesTest::sixAndEight, text, 0, 7);
            dueNumbers(TextsEdgesTest::six, text, 0, -1);
        }
    }

    static void promise18ThoseOfTheTextItself() {
        dueTold(TextsEdgesTest::few, "person 0;own 2 0 0");
        dueFault(TextsEdgesTest::few, "person 0;own 3 0 0", 13);
        dueTold(TextsEdgesTest::few, "garment 0 0;wash 3");
        dueFault(TextsEdgesTest::few, "garment 0 0;wash 4", 17);
        dueTold(Edges::empty, "garment 0 0;person 0;wear 0 0");
    }

    static void promise18ANumberThatMayNotBeAheadOfWhatFollows() {
        dueFault(TextsEdgesTest::few, "person 10 ", 7);
        dueFault(TextsEdgesTest::few, "garment 7", 8);
        dueFault(TextsEdgesTest::few, "garment 7x", 8);
        dueFault(TextsEdgesTest::few, "own 2", 4);
        dueFault(TextsEdgesTest::few, "own 0 12", 6);
        dueFault(TextsEdgesTest::few, "habit 0 0 10;", 10);
        dueFault(TextsEdgesTest::few, "habit 0 0 0;", 10);
        dueFault(TextsEdgesTest::few, "habit 3 12 0 0", 6);
        dueFault(TextsEdgesTest::few, "wear 3 9", 5);
    }

    static void promise18NoRoomOnceTheWordIsWhole() {
        for (int n = 0; n < 6; n++) {
            dueFault(TextsEdgesTest::six, "person".substring(0, n), n);
            dueFault(TextsEdgesTest::six, "person".substring(0, n) + "#", n);
            dueFault(TextsEdgesTest::six, "person".substring(0, n) + ";", n);
        }
        for (String rest : new String[] {"", " ", " 0", " x", "x", ";", " 10"}) {
            dueFault(TextsEdgesTest::six, "person" + rest, 0);
            dueFault(TextsEdgesTest::six, "day;person" + rest, 4);
            dueFault(TextsEdgesTest::eight, "garment" + rest, 0);
            dueFault(TextsEdgesTest::eight, "day;garment" + rest, 4);
        }
        for (int n = 0; n < 7; n++) {
            dueFault(TextsEdgesTest::eight, "garment".substring(0, n), n);
            dueFault(TextsEdgesTest::eight, "garment".substring(0, n) + "#", n);
        }
    }

    static void promise18ElementsOfAllSorts() {
        String text = "person 1";
        for (int sort = 0; sort <= 3; sort++) {
            for (int at = 0; at <= text.length() - 1; at++) {
                // the lowest 8 bits of these are those of a letter
                long[] letters = new long[text.length()];
                for (int i = 0; i < letters.length; i++) {
                    letters[i] = text.charAt(i);
                }
                long[] above = {256, 65536, 1L << 32, -(1L << 32), 1L << 63};
                boolean[][] isLetter = {{true, true, true, true, true}, {false, true, true, true, true},
                    {false, false, true, true, true}, {false, false, true, true, true}};
                for (int i = 0; i < above.length; i++) {
                    long letter = letters[at];
                    letters[at] = letter + above[i];
                    ClothesRemember x = few();
                    Check.fill(x, 0, sort, letters);
                    String name = "sort " + sort + ", " + above[i] + " more at " + at;
                    Check.due(name, x.wardrobe(0), isLetter[sort][i] ? 1 : -6);
                    Check.due(name, x.fault(), isLetter[sort][i] ? -1 : at);
                    letters[at] = letter;
                }
            }
        }
    }

    static void promise18AZeroIsNoLetter() {
        ClothesRemember x = few();
        Check.fill(x, 0, 0, 'd', 'a', 'y', 0);
        Check.due("a 0 behind an item", x.wardrobe(0), -6);
        Check.due("its place", x.fault(), 3);
        Check.fill(x, 0, 0, 'd', 'a', 'y', ';', 0);
        Check.due("a 0 for an item", x.wardrobe(0), -6);
        Check.due("its place", x.fault(), 4);
        Check.fill(x, 0, 0, 'o', 'f', 'f', ' ', '0', 0);
        Check.due("a 0 for a digit", x.wardrobe(0), -6);
        Check.due("its place", x.fault(), 5);
    }
}
