/** The lands in which edges are tried. None needs more than 300 calls, so that 200 are left to look at it. */
final class Lands {
    static final State EMPTY = new State("empty", LionShield::new);
    /** 0 is he, 1 is she, without parents. */
    static final State TWO = new State("two", Lands::two);
    /** Five people, three texts, a sheet of each sort, slots of each thing, an image, something on the tape. */
    static final State SOME = new State("some", Lands::some);
    /** 14 people, 14 texts, 96 bytes, 60 numbers that wait, sheets of 24 places, THE YEAR 9999. */
    static final State FULL = new State("full", Lands::full);

    private Lands() {
    }

    private static LionShield two() {
        LionShield x = new LionShield();
        x.person(0, -1, -1, 0, 1);
        x.person(0, -1, -1, 1, 2);
        return x;
    }

    private static LionShield beforeTheImage() {
        LionShield x = two();
        x.person(1, 0, 1, 0, 0);
        x.person(3, 0, 1, 1, 3);
        x.person(5, 2, 1, 0, 4);
        x.set(3, 5, 6);
        Due.text(x, "join (f+m)/2+(n<2)");
        Due.text(x, "fee y*100+p");
        Due.text(x, "fine a*10+b");
        x.seed(99);
        x.fertile(55);
        return x;
    }

    private static LionShield some() {
        LionShield x = beforeTheImage();
        x.keep();
        tellOfOneYear(x);
        x.set(0, 4, 3);
        x.turns(1, 2);
        x.fertile(0);
        x.years(3);
        x.fertile(45);
        x.sheet(0, 0, 5);
        x.sheet(1, 1, 6);
        x.sheet(2, 0, 24);
        for (int i = 0; i < 5; i++) {
            x.mark(0, i, 3 * i - 4);
            x.mark(1, i, i == 2 ? Due.NONE : 10 - i);
            x.mark(2, 23 - i, i);
        }
        x.lay(1, 1, 3);
        x.lay(2, 2, 1);
        x.lay(3, 3, 777);
        x.lay(4, 2, 0);
        Due.onTape(x, "fee y+1234");
        return x;
    }

    private static void tellOfOneYear(LionShield x) {
        LionShield y = beforeTheImage();
        y.years(1);
        x.tell(y.count(0));
        x.tell(together(y, 0));
    }

    static int together(LionShield x, int charge) {
        int sum = 0;
        for (int one = 0; one < x.count(0); one++) {
            sum += x.bears(one, charge);
        }
        return sum;
    }

    private static LionShield full() {
        LionShield x = new LionShield();
        x.seed(7);
        x.deal(14);
        for (int text = 0; text < 13; text++) {
            Due.text(x, "fine a+" + text);
        }
        x.keep();
        int charge0 = together(x, 0);
        for (int year = 0; year < 30; year++) {
            x.tell(14);
            x.tell(charge0);
        }
        Due.text(x, "fee y");
        x.set(13, 4, 5);
        x.set(13, 5, 255);
        for (int sheet = 0; sheet < 4; sheet++) {
            x.sheet(sheet, sheet % 2, 24);
            x.mark(sheet, 23, 23 + sheet);
        }
        for (int slot = 0; slot < 5; slot++) {
            x.lay(slot, 1 + slot % 3, slot % 4);
        }
        Due.onTape(x, "fee " + "1+".repeat(45) + "11");
        passAllYears(x);
        return x;
    }

    static void passAllYears(LionShield x) {
        for (int i = 0; i < 100; i++) {
            x.years(100);
        }
    }
}
