/** Promises 17 and 18: wardrobes read from texts, and their faults. */
public final class TextsTest {
    public static void main(String[] args) {
        itemsOfEachWord();
        refusals();
        faultsOfWords();
        faultsOfNumbers();
        faultsOfSigns();
        allOrNothing();
        room();
        sortsOfRows();
        latestFault();
        everyCutOfAText();
        Check.end("TextsTest");
    }

    private static void itemsOfEachWord() {
        ClothesRemember x = new ClothesRemember();
        Check.due("17: person", Check.tell(x, "person 7"), 1);
        Check.due("17: garment", Check.tell(x, "garment 2 3;garment 06 09"), 2);
        Check.due("17: own", Check.tell(x, "own 0 11 9"), 1);
        Check.due("17: own with 0s", Check.tell(x, "own 00 01 00;own 0 02 05"), 2);
        Check.due("17: habit", Check.tell(x, "habit 0 10 9 1;habit 01 00 01 09"), 2);
        Check.due("17: wear", Check.tell(x, "wear 0 0;wear 1 0"), 2);
        Check.due("17: off", Check.tell(x, "off 1"), 1);
        Check.due("18: none", x.fault(), -1);
        Check.due("17: will", x.personOf(0, 0), 7);
        Check.due("17: kind", x.garmentOf(1, 0), 6);
        Check.due("17: a", x.garmentOf(1, 1), 9);
        Check.due("17: own", x.personOf(0, 21), 9);
        Check.due("17: own", x.personOf(0, 12), 5);
        Check.due("17: habit", x.garmentOf(0, 20), 9);
        Check.due("17: firm", x.garmentOf(0, 40), 1);
        Check.due("17: habit", x.garmentOf(1, 10), 1);
        Check.due("17: worn", x.garmentOf(0, 2), 1);
        Check.due("17: off", x.garmentOf(1, 2), 0);
        Check.due("17: day", Check.tell(x, "day"), 1);
        Check.due("17: learnt", x.garmentOf(0, 21), 9);
        Check.due("17: a day in truth", x.status(4), 1);
        Check.due("17: wash", Check.tell(x, "wash 0;day;wash 1"), 3);
        Check.due("17: washed", x.garmentOf(1, 10), 0);
        Check.due("17: washed, and learnt anew", x.garmentOf(0, 31 + 10), 1);
        Check.due("17: two days in truth", x.status(4), 2);
    }

    private static void refusals() {
        ClothesRemember x = Check.told("garment 0 0");
        x.show(1, 0);
        Check.due("17: no shelf", x.wardrobe(8), -1);
        Check.due("17: no shelf", x.wardrobe(-1), -1);
        Check.due("17: a garment", x.wardrobe(1), -2);
        Check.due("17: nothing", x.wardrobe(2), -3);
        Check.due("18: none yet", x.fault(), -1);
        x.row(2, 0, 0);
        Check.due("17: empty", x.wardrobe(2), -6);
        Check.due("18: ends too early", x.fault(), 0);
        Check.dueRefusals("17", x, 2, 1, 1, 0, 0, 1);
    }

    /** Told over a person and a garment. */
    private static void dueFault(String text, int fault) {
        ClothesRemember x = Check.told("person 1;garment 0 0");
        Check.due("17: " + text, Check.tell(x, text), fault == -1 ? text.split(";").length : -6);
        Check.due("18: " + text, x.fault(), fault);
    }

    private static void faultsOfWords() {
        String[] words = {"person", "garment", "own", "habit", "wear", "off", "wash", "day"};
        for (String word : words) {
            for (int n = 0; n < word.length(); n++) {
                dueFault(word.substring(0, n), n);
                dueFault(word.substring(0, n) + "?", n);
                dueFault("day;" + word.substring(0, n), 4 + n);
                dueFault("day;" + word.substring(0, n) + " ", 4 + n);
            }
            dueFault(word, word.equals("day") ? -1 : word.length());
            dueFault(word + "s", word.length());
        }
        dueFault("weash 0", 3);
        dueFault("wasr 0 0", 3);
        dueFault("owf 0", 2);
        dueFault("Day", 0);
        dueFault(" day", 0);
        dueFault("day ", 3);
        dueFault("day; day", 4);
        dueFault("day;", 4);
        dueFault("day;;day", 4);
        dueFault(";day", 0);
        dueFault("day.day", 3);
        dueFault("dayday", 3);
    }

    private static void faultsOfNumbers() {
        dueFault("person 10", 7);
        dueFault("person 09", -1);
        dueFault("person 009", 9);
        dueFault("person 123", 7);
        dueFault("person 99 ", 7);
        dueFault("garment 7 0", 8);
        dueFault("garment 6 10", 10);
        dueFault("garment 06 09", -1);
        dueFault("own 1 0 0", 4);
        dueFault("own 0 12 0", 6);
        dueFault("own 0 99", 6);
        dueFault("own 0 11 10", 9);
        dueFault("own 0 011 1", 8);
        dueFault("habit 1 0 1 1", 6);
        dueFault("habit 0 12 1 1", 8);
        dueFault("habit 0 0 0 1", 10);
        dueFault("habit 0 0 00 1", 10);
        dueFault("habit 0 0 10 1", 10);
        dueFault("habit 0 0 01 0", 13);
        dueFault("habit 0 0 1 10", 12);
        dueFault("habit 0 0 1 0;", 12);
        dueFault("habit 0 0 1 09", -1);
        dueFault("wear 1 0", 5);
        dueFault("wear 0 1", 7);
        dueFault("wear 0 00", -1);
        dueFault("off 1", 4);
        dueFault("wash 1", 5);
        dueFault("wash 10", 5);
        dueFault("wash 00", -1);
        dueFault("person 1;own 1 0 1", -1);
        dueFault("garment 0 0;off 1;wash 1;wear 1 0", -1);
    }

    private static void faultsOfSigns() {
        dueFault("person", 6);
        dueFault("person ", 7);
        dueFault("person  1", 7);
        dueFault("person1", 6);
        dueFault("person;", 6);
        dueFault("person x", 7);
        dueFault("person -1", 7);
        dueFault("person 1 ", 8);
        dueFault("person 1 1", 8);
        dueFault("person 1x", 8);
        dueFault("own 001 x", 6);
        dueFault("habit 00x", 8);
        dueFault("person 01x", 9);
        dueFault("garment 0", 9);
        dueFault("garment 0;", 9);
        dueFault("garment 0 ", 10);
        dueFault("garment 0 ;", 10);
        dueFault("garment 0 0 ", 11);
        dueFault("own 0 0", 7);
        dueFault("habit 0 0 1", 11);
        dueFault("off 0;", 6);
        dueFault("off 0,day", 5);
        dueFault("person /", 7);
        dueFault("person :", 7);
    }

    private static void allOrNothing() {
        ClothesRemember x = Check.told("person 1;garment 1 0;wear 0 0;habit 0 0 1 5");
        Check.due("17: a fault at the end", Check.tell(x,
            "person 2;garment 2 0;own 0 1 9;habit 0 1 4 4;off 0;wash 0;day;person 3;wear 0 9"), -6);
        Check.due("18: its place", x.fault(), 78);
        Check.due("17: people", x.status(1), 1);
        Check.due("17: garments", x.status(0), 1);
        Check.due("17: habits", x.status(2), 1);
        Check.due("17: firm", x.garmentOf(0, 30), 5);
        Check.due("17: worn", x.status(3), 1);
        Check.due("17: own", x.personOf(0, 11), 0);
        Check.due("17: days", x.status(4), 0);
    }

    private static void room() {
        ClothesRemember x = new ClothesRemember();
        Check.due("17: six", Check.tell(x, "person 1;person 1;person 1;person 1;person 1;person 1"), 6);
        String[] texts = {"person 1", "person", "perso", "persox", "day;person 10", "garment 0 0;person"};
        int[] faults = {0, 0, 5, 5, 4, 12};
        for (int i = 0; i < texts.length; i++) {
            Check.due("17: " + texts[i], Check.tell(x, texts[i]), -6);
            Check.due("18: " + texts[i], x.fault(), faults[i]);
        }
        String four = "garment 0 0;garment 0 0;garment 0 0;garment 0 0";
        Check.due("17: nine", Check.tell(x, four + ";" + four + ";garment 0 0"), -6);
        Check.due("18: the ninth", x.fault(), 96);
        Check.due("17: none of them", x.status(0), 0);
        Check.due("17: eight", Check.tell(x, four + ";" + four), 8);
        Check.due("17: cut", Check.tell(x, "garmen"), -6);
        Check.due("18: cut", x.fault(), 6);
        Check.due("17: whole", Check.tell(x, "garment"), -6);
        Check.due("18: whole", x.fault(), 0);
    }

    private static void sortsOfRows() {
        ClothesRemember x = new ClothesRemember();
        Check.fill(x, 0, 3, 'd' + (1L << 32), 'a' - (7L << 40), 'y');
        Check.due("17: lowest 32 bits of longs", x.wardrobe(0), 1);
        Check.fill(x, 1, 2, 'd' + (1 << 16), 'a', 'y');
        Check.due("17: all of an int", x.wardrobe(1), -6);
        Check.due("18: all of an int", x.fault(), 0);
        Check.fill(x, 2, 1, 'd', 'a', 'y' + 256);
        Check.due("17: all of a short", x.wardrobe(2), -6);
        Check.due("18: all of a short", x.fault(), 2);
        Check.fill(x, 3, 0, 'd' + 256, 'a', 'y');
        Check.due("17: bytes keep their bits", x.wardrobe(3), 1);
        Check.due("17: days", x.status(4), 2);
    }

    private static void latestFault() {
        ClothesRemember x = new ClothesRemember();
        Check.tell(x, "nobody");
        Check.due("18: fault", x.fault(), 0);
        Check.due("17: no row", x.wardrobe(0), -3);
        Check.due("18: stays", x.fault(), 0);
        Check.tell(x, "dax");
        Check.due("18: another", x.fault(), 2);
        x.image();
        Check.due("17: no shelf", x.wardrobe(-1), -1);
        x.restore();
        Check.due("18: not of the image", x.fault(), 2);
        Check.tell(x, "day");
        Check.due("18: none", x.fault(), -1);
    }

    /** A text ends too early wherever it is cut, but behind whole items. */
    private static void everyCutOfAText() {
        String text = "person 3;garment 2 04;own 0 11 9;habit 0 3 4 5;wear 0 0;off 0;wash 0;day";
        for (int n = 0; n <= text.length(); n++) {
            ClothesRemember x = new ClothesRemember();
            int items = Check.tell(x, text.substring(0, n));
            // an item whose last number has one digit less is whole as well
            boolean whole = n == text.length() || n > 0 && text.charAt(n) == ';' || n == 20;
            Check.due("18: cut at " + n, x.fault(), whole ? -1 : n);
            Check.due("17: cut at " + n, items, whole ? text.substring(0, n).split(";").length : -6);
            String spoilt = text.substring(0, n) + "#" + text.substring(Math.min(n + 1, text.length()));
            Check.due("17: spoilt at " + n, Check.tell(new ClothesRemember(), spoilt), -6);
            ClothesRemember y = new ClothesRemember();
            Check.tell(y, spoilt);
            Check.due("18: spoilt at " + n, y.fault(), n);
        }
    }
}
