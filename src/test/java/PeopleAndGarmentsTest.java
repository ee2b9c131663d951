/** Promises 9 to 16: people, garments, own deeds, habits, wearing, wills, and what is told of them. */
public final class PeopleAndGarmentsTest {
    private static final int MIN = Integer.MIN_VALUE;
    private static final int MAX = Integer.MAX_VALUE;

    public static void main(String[] args) {
        peopleAndWills();
        garments();
        ownDeeds();
        habits();
        wearing();
        tellingOfGarments();
        tellingOfPeople();
        pulls();
        uniforms();
        Check.end("PeopleAndGarmentsTest");
    }

    private static void peopleAndWills() {
        ClothesRemember x = new ClothesRemember();
        for (int i = 0; i < 6; i++) {
            Check.due("9: number", x.person(9 - i), i);
        }
        Check.due("9: will ahead of room", x.person(10), -6);
        Check.due("9: will below", x.person(-1), -6);
        Check.due("9: room", x.person(0), -7);
        Check.due("9: six", x.status(1), 6);
        Check.due("14: what it was", x.will(5, 0), 4);
        Check.due("14: what it was", x.will(5, 9), 0);
        Check.due("14: became", x.personOf(5, 0), 9);
        Check.due("14: nobody ahead of will", x.will(6, 10), -1);
        Check.due("14: nobody", x.will(-1, 0), -1);
        Check.due("14: will", x.will(5, 10), -6);
        Check.due("14: will", x.will(5, -1), -6);
        Check.due("14: far", x.will(MAX, MIN), -1);
        Check.due("14: stays", x.personOf(5, 0), 9);
        Check.dueRefusals("9 and 14", x, 3, 0, 0, 0, 0, 4, 1);
    }

    private static void garments() {
        ClothesRemember x = new ClothesRemember();
        Check.due("10: kind ahead of a", x.garment(7, 10), -1);
        Check.due("10: kind", x.garment(-1, 0), -1);
        Check.due("10: a", x.garment(6, 10), -6);
        Check.due("10: a", x.garment(0, -1), -6);
        for (int i = 0; i < 8; i++) {
            Check.due("10: number", x.garment(i % 7, 9 - i), i);
            Check.due("15: kind", x.garmentOf(i, 0), i % 7);
            Check.due("15: a", x.garmentOf(i, 1), 9 - i);
            Check.due("15: nobody", x.garmentOf(i, 2), 0);
            Check.due("15: no habit", x.garmentOf(i, 10), 0);
            Check.due("15: not firm", x.garmentOf(i, 41), 0);
        }
        Check.due("10: a ahead of room", x.garment(0, 10), -6);
        Check.due("10: kind ahead of room", x.garment(7, 0), -1);
        Check.due("10: room", x.garment(0, 0), -7);
        Check.due("10: eight", x.status(0), 8);
        Check.dueRefusals("10", x, 3, 0, 0, 0, 0, 3, 1);
    }

    private static void ownDeeds() {
        ClothesRemember x = Check.told("person 0;person 5");
        Check.due("11: what it was", x.own(1, 11, 9), 0);
        Check.due("11: what it was", x.own(1, 11, 0), 9);
        Check.due("11: what it was", x.own(1, 0, 3), 0);
        Check.due("11: became", x.personOf(1, 10), 3);
        Check.due("11: of one alone", x.personOf(0, 10), 0);
        Check.due("11: nobody", x.own(2, 12, 10), -1);
        Check.due("11: nobody", x.own(-1, 0, 0), -1);
        Check.due("11: hour", x.own(0, 12, 0), -6);
        Check.due("11: hour", x.own(0, -1, 0), -6);
        Check.due("11: deed", x.own(0, 0, 10), -6);
        Check.due("11: deed", x.own(0, 0, -1), -6);
        Check.due("11: far", x.own(0, MAX, MIN), -6);
        Check.dueRefusals("11", x, 2, 0, 0, 0, 0, 5);
    }

    private static void habits() {
        ClothesRemember x = Check.told("garment 0 0;garment 4 0");
        Check.due("12: what it was", x.habit(1, 11, 9, 1), 0);
        Check.due("12: what it was", x.habit(1, 11, 1, 9), 9);
        Check.due("12: became", x.garmentOf(1, 21), 1);
        Check.due("12: became firm", x.garmentOf(1, 41), 9);
        Check.due("12: of one alone", x.garmentOf(0, 21), 0);
        Check.due("12: none", x.habit(1, 11, 0, 0), 1);
        Check.due("12: not firm", x.garmentOf(1, 41), 0);
        Check.due("12: nobody", x.habit(2, 12, 10, 10), -1);
        Check.due("12: nobody", x.habit(-1, 0, 1, 1), -1);
        Check.due("12: hour", x.habit(0, 12, 1, 1), -6);
        Check.due("12: hour", x.habit(0, -1, 1, 1), -6);
        Check.due("12: deed", x.habit(0, 0, 10, 1), -6);
        Check.due("12: deed", x.habit(0, 0, -1, 1), -6);
        Check.due("12: firm", x.habit(0, 0, 1, 10), -6);
        Check.due("12: firm", x.habit(0, 0, 1, -1), -6);
        Check.due("12: one of both 0", x.habit(0, 0, 0, 1), -6);
        Check.due("12: one of both 0", x.habit(0, 0, 1, 0), -6);
        Check.due("12: nothing changed", x.status(2), 0);
        Check.dueRefusals("12", x, 2, 0, 0, 0, 0, 8);
    }

    private static void wearing() {
        ClothesRemember x = Check.told("person 0;person 5;garment 0 0");
        Check.due("13: nobody did", x.wear(0, 1), -1);
        Check.due("13: who did", x.wear(0, 0), 1);
        Check.due("13: who did", x.wear(0, -1), 0);
        Check.due("13: nobody did", x.wear(0, -1), -1);
        Check.due("13: no garment", x.wear(1, 0), -11);
        Check.due("13: no garment", x.wear(-1, -1), -11);
        Check.due("13: no such one", x.wear(0, 2), -11);
        Check.due("13: below NONE", x.wear(0, -2), -11);
        Check.due("13: stays", x.garmentOf(0, 2), 0);
        Check.dueRefusals("13", x, 4);
    }

    private static void tellingOfGarments() {
        ClothesRemember x = Check.told("person 0;person 5;garment 3 7;wear 0 1;habit 0 0 4 6;habit 0 11 5 2");
        Check.due("15: kind", x.garmentOf(0, 0), 3);
        Check.due("15: a", x.garmentOf(0, 1), 7);
        Check.due("15: wearer and 1", x.garmentOf(0, 2), 2);
        Check.due("15: habit", x.garmentOf(0, 10), 4);
        Check.due("15: habit", x.garmentOf(0, 21), 5);
        Check.due("15: firm", x.garmentOf(0, 30), 6);
        Check.due("15: firm", x.garmentOf(0, 41), 2);
        Check.due("15: pull", x.garmentOf(0, 50), 14);
        Check.due("15: pull", x.garmentOf(0, 61), 10);
        int[] others = {3, 9, 22, 29, 42, 49, 62, -1, MAX, MIN};
        for (int what : others) {
            Check.due("15: what " + what, x.garmentOf(0, what), -5);
        }
        Check.due("15: no such one", x.garmentOf(1, 0), -5);
        Check.due("15: no such one", x.garmentOf(-1, 0), -5);
        Check.dueRefusals("15", x, 0, 0, 0, 0, 12);
    }

    private static void tellingOfPeople() {
        ClothesRemember x = Check.told("person 3;person 5;garment 0 0;garment 0 0;garment 0 0;wear 0 1;wear 2 1;"
            + "own 1 0 8;own 1 11 9");
        Check.due("16: will", x.personOf(1, 0), 5);
        Check.due("16: garments", x.personOf(1, 1), 5);
        Check.due("16: no garments", x.personOf(0, 1), 0);
        Check.due("16: own", x.personOf(1, 10), 8);
        Check.due("16: own", x.personOf(1, 21), 9);
        int[] others = {2, 9, 22, -1, MAX, MIN};
        for (int what : others) {
            Check.due("16: what " + what, x.personOf(1, what), -5);
        }
        Check.due("16: no such one", x.personOf(2, 0), -5);
        Check.due("16: no such one", x.personOf(-1, 0), -5);
        Check.dueRefusals("16", x, 0, 0, 0, 0, 8);
    }

    /** Pulls with firm 7, a 4: at hour 3, at hour 4, without a habit. */
    private static void pulls() {
        int[] due = {7, 11, 7, 12, 14, 3, 14};
        for (int kind = 0; kind <= 6; kind++) {
            ClothesRemember x = new ClothesRemember();
            x.garment(kind, 4);
            x.habit(0, 3, 2, 7);
            x.habit(0, 4, 2, 7);
            Check.due("15: pull of kind " + kind, x.garmentOf(0, 53), due[kind]);
            Check.due("15: pull at hour a of kind " + kind, x.garmentOf(0, 54), due[kind] + (kind == 6 ? 9 : 0));
            Check.due("15: no pull of kind " + kind, x.garmentOf(0, 55), 0);
        }
        ClothesRemember x = Check.told("garment 5 0;habit 0 0 1 1;garment 6 0");
        Check.due("15: half of 1, cut", x.garmentOf(0, 50), 0);
        Check.due("15: gown without a habit at its hour", x.garmentOf(1, 50), 0);
    }

    private static void uniforms() {
        ClothesRemember x = Check.told("person 0;garment 3 1;garment 3 2;garment 3 0;garment 1 0;wear 1 0",
            "habit 0 0 5 1;habit 1 0 5 2;habit 2 0 6 3;habit 3 0 5 4;habit 2 1 5 3");
        Check.due("15: two alike, one worn", x.garmentOf(0, 50), 1 + 2 + 1);
        Check.due("15: two alike, it is worn", x.garmentOf(1, 50), 2 + 2 + 2);
        Check.due("15: another deed", x.garmentOf(2, 50), 3 + 1);
        Check.due("15: another hour", x.garmentOf(2, 51), 3 + 1);
        Check.due("15: a coat counts none", x.garmentOf(3, 50), 4);
        x.habit(2, 0, 5, 9);
        Check.due("15: three alike", x.garmentOf(0, 50), 1 + 3 + 1);
    }
}
