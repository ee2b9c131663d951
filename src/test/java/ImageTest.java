/** Promises 43 to 45: the image, restoring, and what status() counts. */
public final class ImageTest {
    public static void main(String[] args) {
        imageOfNothing();
        shelvesStay();
        whatIsNotOfTheImage();
        for (int number = 0; number < Worlds.HOW_MANY; number++) {
            takenAndRestored(number);
            counted(number);
        }
        otherNumbers();
        Check.end("ImageTest");
    }

    private static void imageOfNothing() {
        ClothesRemember x = new ClothesRemember();
        Check.due("44: there is none", x.restore(), -6);
        Check.due("43: no garments", x.image(), 0);
        Check.tell(x, "person 3;garment 0 0;garment 1 1;own 0 0 1;wear 0 0;day");
        x.seed(77);
        Check.due("44: nobody again", x.restore(), 0);
        for (int what = 0; what <= 4; what++) {
            Check.due("44: status " + what, x.status(what), 0);
        }
        Check.due("44: seed", x.status(5), 1);
        Check.due("44: a person anew", x.person(5), 0);
        Check.due("44: nothing of the old one", x.personOf(0, 10), 0);
        Check.due("44: a garment anew", x.garment(2, 2), 0);
        Check.due("44: nothing of the old one", x.status(2) + x.status(3), 0);
        Check.dueRefusals("44", x, 0, 0, 0, 0, 0, 1);
    }

    private static void shelvesStay() {
        ClothesRemember x = Check.told("garment 0 1;garment 1 2");
        Check.due("43: two", x.image(), 2);
        Check.tell(x, "garment 2 3;garment 3 4");
        Check.fill(x, 0, 1, 5, 6);
        for (int s = 1; s <= 4; s++) {
            x.show(s, s - 1);
        }
        x.show(7, 2);
        ClothesRemember y = new ClothesRemember();
        y.image();
        y.garment(0, 0);
        y.show(0, 0);
        y.restore();
        Check.due("44: none of this number", y.holds(0), -1);
        Check.due("44: two", x.restore(), 2);
        Check.due("44: a row stays", x.element(0, 1), 6);
        Check.due("44: of this number", x.holds(1), 0);
        Check.due("44: of this number", x.holds(2), 1);
        Check.due("44: none of this number", x.holds(3), -1);
        Check.due("44: none of this number", x.holds(4), -1);
        Check.due("44: nothing was there", x.holds(5), -1);
        Check.due("44: none of this number", x.holds(7), -1);
        x.garment(6, 6);
        Check.due("44: stays nothing", x.holds(3), -1);
        x.show(3, 2);
        x.image();
        x.habit(2, 0, 1, 1);
        Check.due("44: three", x.restore(), 3);
        Check.due("44: stays", x.holds(3), 2);
        Check.due("8: tells of the restored one", x.says(3, 0), 0);
        Check.due("44: and once more", x.restore(), 3);
    }

    private static void whatIsNotOfTheImage() {
        ClothesRemember x = Check.told("person 0;garment 0 0");
        x.act(0, 0, 1);
        x.person(11);
        x.image();
        x.person(12);
        x.act(0, 2, 1);
        Check.tell(x, "dap");
        x.restore();
        Check.due("44: refusals stay", x.status(16), 3);
        Check.due("44: the fault stays", x.fault(), 2);
        Check.due("44: the trace stays", x.status(6), 4);
        Check.due("44: the trace stays", x.trace(0), 12);
        Check.due("44: the image stays", x.restore(), 1);
    }

    private static void takenAndRestored(int number) {
        String learnt = Worlds.learnt(lived(number));
        String others = Worlds.others(lived(number));
        int garments = Worlds.garments(lived(number));
        ClothesRemember x = lived(number);
        Check.due("43: world " + number, x.image(), garments);
        Check.due("43: changes nothing in world " + number, Worlds.learnt(x).equals(learnt) ? 1 : 0, 1);
        ClothesRemember y = lived(number);
        Check.due("43: world " + number, y.image(), garments);
        Check.due("43: changes nothing in world " + number, Worlds.others(y).equals(others) ? 1 : 0, 1);
        Check.due("44: as it was in world " + number, Worlds.learnt(restored(number, garments)).equals(learnt) ? 1 : 0, 1);
        Check.due("44: as it was in world " + number, Worlds.others(restored(number, garments)).equals(others) ? 1 : 0, 1);
    }

    private static ClothesRemember lived(int number) {
        ClothesRemember x = Worlds.world(number);
        x.seed(number);
        x.days(1);
        return x;
    }

    private static ClothesRemember restored(int number, int garments) {
        ClothesRemember x = lived(number);
        x.image();
        x.years(30);
        x.will(0, 0);
        x.person(3);
        x.garment(1, 1);
        x.habit(0, 0, 9, 9);
        x.own(0, 0, 9);
        Check.due("44: world " + number, x.restore(), garments);
        return x;
    }

    private static void counted(int number) {
        ClothesRemember x = Worlds.world(number);
        int habits = 0;
        int worn = 0;
        for (int g = 0; g < Worlds.garments(x); g++) {
            for (int hour = 0; hour < Worlds.HOURS; hour++) {
                habits += x.garmentOf(g, 10 + hour) != 0 ? 1 : 0;
            }
            worn += x.garmentOf(g, 2) != 0 ? 1 : 0;
        }
        Check.due("45: habits of world " + number, x.status(2), habits);
        Check.due("45: worn in world " + number, x.status(3), worn);
        x.days(7);
        x.days(2);
        Check.due("45: days of world " + number, x.status(4), 9);
    }

    private static void otherNumbers() {
        ClothesRemember x = Check.told("person 0;person 0;garment 0 0");
        Check.due("45: garments", x.status(0), 1);
        Check.due("45: people", x.status(1), 2);
        int[] others = {7, 8, 9, 10, 18, 19, -1, -11, Integer.MAX_VALUE, Integer.MIN_VALUE};
        for (int what : others) {
            Check.due("45: what " + what, x.status(what), -1);
        }
        Check.dueRefusals("45: no refusal itself", x);
        x.row(8, 0, 0);
        x.show(0, 0);
        x.set(0, 0, 0);
        x.set(1, 0, 0);
        x.row(0, 0, -1);
        x.watch();
        x.garmentOf(5, 0);
        x.will(0, 10);
        x.row(0, 0, 161);
        Check.dueRefusals("45: each", x, 1, 1, 1, 1, 1, 1, 1);
    }
}
