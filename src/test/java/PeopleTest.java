/** Promises 1 to 10. */
public final class PeopleTest {
    public static void main(String[] args) {
        newObject();
        person();
        told();
        heiress();
        worth();
        bearsByKind();
        bearsOfParents();
        bearsUnbarred();
        asKind();
        turns();
        set();
        fertile();
        deal();
        seed();
        Due.end();
    }

    private static void newObject() {
        LionShield x = new LionShield();
        int[] counts = {0, 0, 30, 0, 0, 0, 0, 1};
        for (int what = 0; what < 8; what++) {
            Due.is("1: count(" + what + ")", x.count(what), counts[what]);
        }
        for (int i = 0; i < 5; i++) {
            Due.is("1: ask(" + i + ", 0)", x.ask(i, 0), Due.NOTHING);
        }
        for (int i = 0; i < 4; i++) {
            Due.is("1: reads(" + i + ")", x.reads(i), Due.NOTHING);
        }
        for (int key = 0; key < 3; key++) {
            Due.is("1: why(" + key + ")", x.why(key), Due.NONE);
        }
        Due.is("1: back()", x.back(), Due.NO);
        Due.is("1: told(0, 0)", x.told(0, 0), Due.BAD);
    }

    private static void person() {
        LionShield x = new LionShield();
        Due.is("2: he", x.person(0, -1, -1, 0, 7), 0);
        Due.is("2: she", x.person(5, -1, -1, 1, 0), 1);
        Due.is("2: kind -1", x.person(-1, -1, -1, 0, 0), Due.BAD);
        Due.is("2: kind 6", x.person(6, -1, -1, 0, 0), Due.BAD);
        Due.is("2: father -2", x.person(0, -2, -1, 0, 0), Due.BAD);
        Due.is("2: father not there", x.person(0, 2, -1, 0, 0), Due.BAD);
        Due.is("2: father she", x.person(0, 1, -1, 0, 0), Due.BAD);
        Due.is("2: mother -2", x.person(0, -1, -2, 0, 0), Due.BAD);
        Due.is("2: mother not there", x.person(0, -1, 2, 0, 0), Due.BAD);
        Due.is("2: mother he", x.person(0, -1, 0, 0, 0), Due.BAD);
        Due.is("2: sex -1", x.person(0, -1, -1, -1, 0), Due.BAD);
        Due.is("2: sex 2", x.person(0, -1, -1, 2, 0), Due.BAD);
        Due.is("2: first -1", x.person(0, -1, -1, 0, -1), Due.BAD);
        Due.is("2: first 8", x.person(0, -1, -1, 0, 8), Due.BAD);
        Due.is("2: far numbers", x.person(0, Integer.MAX_VALUE, Integer.MIN_VALUE, 0, 0), Due.BAD);
        Due.is("2: refused ones change nothing", x.count(0), 2);
        Due.is("2: mother alone", x.person(0, -1, 1, 0, 0), 2);
        Due.is("2: father alone", x.person(0, 0, -1, 0, 0), 3);
        for (int n = 4; n < 14; n++) {
            Due.is("2: number " + n, x.person(n % 6, 0, 1, n % 2, n % 8), n);
        }
        Due.is("2: the fifteenth", x.person(0, -1, -1, 0, 0), Due.FULL);
        Due.is("2: BAD stands ahead of FULL", x.person(0, 1, -1, 0, 0), Due.BAD);
        Due.is("2: still 14", x.count(0), 14);
    }

    private static void told() {
        LionShield x = new LionShield();
        x.person(3, -1, -1, 0, 2);
        x.person(4, -1, -1, 1, 5);
        x.person(1, 0, 1, 1, 6);
        int[] due = {1, 0, 1, 1, 6, 0, 1, 66};
        for (int what = 0; what < 8; what++) {
            Due.is("3: told(2, " + what + ")", x.told(2, what), due[what]);
        }
        Due.is("3: no father", x.told(0, 1), -1);
        Due.is("3: no mother", x.told(0, 2), -1);
        Due.is("3: what -1", x.told(0, -1), Due.BAD);
        Due.is("3: what 8", x.told(0, 8), Due.BAD);
        Due.is("3: one -1", x.told(-1, 0), Due.BAD);
        Due.is("3: one not there", x.told(3, 0), Due.BAD);
    }

    private static void heiress() {
        LionShield x = new LionShield();
        x.person(0, -1, -1, 0, 0);
        x.person(0, -1, -1, 1, 1);
        x.person(0, 0, 1, 1, 0);
        Due.is("3: no brother yet", x.told(2, 6), 1);
        x.person(0, 0, 1, 1, 0);
        Due.is("3: a sister is no brother", x.told(2, 6), 1);
        x.person(0, -1, 1, 0, 0);
        Due.is("3: by the mother alone is no brother", x.told(2, 6), 1);
        Due.is("3: without father has no brother", x.told(1, 6), 1);
        x.person(5, 0, -1, 0, 0);
        Due.is("3: a younger brother by the father", x.told(2, 6), 0);
        Due.is("3: he is no heiress", x.told(0, 6), 0);
        Due.is("3: founders that are he are no brothers", x.told(1, 6), 1);
    }

    private static void worth() {
        int[] due = {40, 46, 59, 92, 51, 5};
        for (int kind = 0; kind < 6; kind++) {
            LionShield x = new LionShield();
            x.person(kind, -1, -1, 0, 4);
            Due.is("3: worth of kind " + kind, x.told(0, 7), due[kind]);
        }
    }

    private static void bearsByKind() {
        int[] first = {64, 62, 64, 31, 8, 0};
        for (int kind = 0; kind < 6; kind++) {
            LionShield x = new LionShield();
            x.person(kind, -1, -1, 1, 3);
            for (int charge = 0; charge < 8; charge++) {
                Due.is("4: kind " + kind + " of " + charge, x.bears(0, charge), charge == 3 ? first[kind] : 0);
            }
            Due.is("4: charge -1", x.bears(0, -1), Due.BAD);
            Due.is("4: charge 8", x.bears(0, 8), Due.BAD);
            Due.is("4: one 1", x.bears(1, 0), Due.BAD);
            Due.is("4: one -1", x.bears(-1, 0), Due.BAD);
        }
    }

    private static void bearsOfParents() {
        LionShield x = new LionShield();
        x.person(0, -1, -1, 0, 1);
        x.person(0, -1, -1, 1, 2);
        x.person(0, 0, 1, 1, 5);
        Due.is("4: half of the father's", x.bears(2, 1), 32);
        Due.is("4: half of the heiress's", x.bears(2, 2), 32);
        Due.is("4: FIRST is not borne by an HEIR with a father", x.bears(2, 5), 0);
        x.person(0, 0, -1, 0, 5);
        Due.is("4: without a mother as the father", x.bears(3, 1), 64);
        x.person(0, -1, -1, 0, 7);
        // 2 has a brother, 3, by now: she brings nothing in, but to a bastard.
        x.person(0, 4, 2, 0, 0);
        Due.is("4: no heiress: the father's", x.bears(5, 7), 64);
        Due.is("4: no heiress: none of hers", x.bears(5, 1), 0);
        x.person(5, 4, 2, 0, 0);
        Due.is("4: a bastard has the mother's", x.bears(6, 1), 32);
        Due.is("4: and not the father's", x.bears(6, 7), 0);
        x.person(5, 4, -1, 0, 7);
        Due.is("4: a bastard without a mother", x.bears(7, 7), 0);
        x.person(1, 4, 1, 0, 0);
        Due.is("4: younger", x.bears(8, 7), 30);
        Due.is("4: younger, 0 at least", x.bears(8, 0), 0);
        x.person(3, 8, 1, 0, 0);
        // as HEIR (30 and 0) / 2, as YOUNGER 13, half of it cut
        Due.is("4: labelled", x.bears(9, 7), 6);
        Due.is("4: labelled, by the mother", x.bears(9, 2), ((30 + 64) / 2 - 2) / 2);
        x.person(2, 4, 1, 0, 0);
        Due.is("4: adopted, 64 of FIRST", x.bears(10, 0), 64);
        Due.is("4: adopted, else as HEIR", x.bears(10, 7), 32);
        x.person(4, 4, 1, 0, 7);
        Due.is("4: foundling, 8 of FIRST", x.bears(11, 7), 8);
        Due.is("4: foundling, else nothing", x.bears(11, 2), 0);
        x.person(0, -1, 1, 0, 6);
        Due.is("4: a mother alone leaves a founder", x.bears(12, 6), 64);
        Due.is("4: who bears nothing of hers", x.bears(12, 2), 0);
    }

    private static void bearsUnbarred() {
        LionShield x = new LionShield();
        x.person(0, -1, -1, 0, 1);
        x.person(0, -1, -1, 1, 2);
        x.person(0, 0, 1, 0, 0);
        x.set(0, 5, 2);
        x.set(1, 5, 255);
        Due.is("4: barred", x.bears(0, 1), 0);
        Due.is("4: all barred", x.bears(1, 2), 0);
        Due.is("4: children take what is under the bar of him", x.bears(2, 1), 32);
        Due.is("4: and of her", x.bears(2, 2), 32);
        x.set(0, 5, 253);
        Due.is("4: other charges are barred", x.bears(0, 1), 64);
    }

    private static void asKind() {
        int[][] under = {{0, 1, 2, 3, 4, 5}, {1, 3}, {2, 4}, {3}, {4}, {5}};
        for (int kind = 0; kind < 6; kind++) {
            LionShield x = new LionShield();
            x.person(kind, -1, -1, 0, 6);
            for (int wanted = 0; wanted < 6; wanted++) {
                boolean is = false;
                for (int k : under[wanted]) {
                    is |= k == kind;
                }
                Due.is("5: as(" + kind + " as " + wanted + ")", x.as(0, wanted), is ? 6 : Due.KIND);
            }
            Due.is("5: kind -1", x.as(0, -1), Due.BAD);
            Due.is("5: kind 6", x.as(0, 6), Due.BAD);
            Due.is("5: one 1", x.as(1, 0), Due.BAD);
            Due.is("5: one -1", x.as(-1, 0), Due.BAD);
        }
    }

    private static void turns() {
        LionShield x = new LionShield();
        x.person(0, -1, -1, 0, 6);
        Due.is("6: what it was", x.turns(0, 4), 0);
        Due.is("6: is so from now on", x.told(0, 0), 4);
        Due.is("6: bears so", x.bears(0, 6), 8);
        Due.is("6: the same again", x.turns(0, 4), 4);
        Due.is("6: kind 6", x.turns(0, 6), Due.BAD);
        Due.is("6: kind -1", x.turns(0, -1), Due.BAD);
        Due.is("6: one 1", x.turns(1, 0), Due.BAD);
        Due.is("6: nothing changed", x.told(0, 0), 4);
    }

    private static void set() {
        LionShield x = new LionShield();
        x.person(0, -1, -1, 0, 6);
        Due.is("7: FIRST", x.set(0, 4, 7), 6);
        Due.is("7: FIRST is", x.told(0, 4), 7);
        Due.is("7: BARRED", x.set(0, 5, 255), 0);
        Due.is("7: BARRED again", x.set(0, 5, 0), 255);
        for (int what = -1; what < 9; what++) {
            if (what != 4 && what != 5) {
                Due.is("7: what " + what, x.set(0, what, 0), Due.BAD);
            }
        }
        Due.is("7: FIRST 8", x.set(0, 4, 8), Due.BAD);
        Due.is("7: FIRST -1", x.set(0, 4, -1), Due.BAD);
        Due.is("7: BARRED 256", x.set(0, 5, 256), Due.BAD);
        Due.is("7: BARRED -1", x.set(0, 5, -1), Due.BAD);
        Due.is("7: one 1", x.set(1, 4, 0), Due.BAD);
        Due.is("7: one -1", x.set(-1, 4, 0), Due.BAD);
        Due.is("7: nothing changed", x.told(0, 4), 7);
    }

    private static void fertile() {
        LionShield x = new LionShield();
        Due.is("8: what it was", x.fertile(0), 30);
        Due.is("8: 100", x.fertile(100), 0);
        Due.is("8: 101", x.fertile(101), Due.BAD);
        Due.is("8: -1", x.fertile(-1), Due.BAD);
        Due.is("8: is", x.count(2), 100);
    }

    private static void deal() {
        LionShield x = new LionShield();
        x.seed(77);
        int z = 77;
        Due.is("9: three", x.deal(3), 3);
        for (int one = 0; one < 3; one++) {
            z = z * 1103515245 + 12345;
            Due.is("9: kind of " + one, x.told(one, 0), (z >>> 8) % 6);
            z = z * 1103515245 + 12345;
            Due.is("9: sex of " + one, x.told(one, 3), (z >>> 8) % 2);
            z = z * 1103515245 + 12345;
            Due.is("9: first of " + one, x.told(one, 4), (z >>> 8) % 8);
            Due.is("9: no father", x.told(one, 1), -1);
            Due.is("9: no mother", x.told(one, 2), -1);
            Due.is("9: not barred", x.told(one, 5), 0);
        }
        Due.is("9: three draws each", x.count(7), z);
        Due.is("9: 0", x.deal(0), Due.BAD);
        Due.is("9: 15", x.deal(15), Due.BAD);
        Due.is("9: refused without a draw", x.count(7), z);
        Due.is("9: as many as there is room for", x.deal(14), 11);
        for (int i = 0; i < 33; i++) {
            z = z * 1103515245 + 12345;
        }
        Due.is("9: no draws for others", x.count(7), z);
        Due.is("9: no room", x.deal(1), 0);
        Due.is("9: no draw at all", x.count(7), z);
    }

    private static void seed() {
        LionShield x = new LionShield();
        Due.is("10: 1 at first", x.seed(Integer.MIN_VALUE), 1);
        Due.is("10: what it was", x.seed(-5), Integer.MIN_VALUE);
        Due.is("10: z", x.count(7), -5);
    }
}
