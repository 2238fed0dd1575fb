/** Promises 11 to 17. */
public final class YearsShieldsTest {
    public static void main(String[] args) {
        years();
        lastYear();
        alike();
        land();
        sixteenth();
        from();
        match();
        matchByLaw();
        repaint();
        fourteenOfOne();
        Due.end();
    }

    private static int next(int z) {
        return z * 1103515245 + 12345;
    }

    private static void years() {
        LionShield x = new LionShield();
        Due.is("11: 0", x.years(0), Due.BAD);
        Due.is("11: 101", x.years(101), Due.BAD);
        Due.is("11: nobody", x.years(100), 0);
        int z = 1;
        for (int i = 0; i < 100; i++) {
            z = next(z);
        }
        Due.is("11: one draw a year", x.count(7), z);
        Due.is("11: the year", x.count(1), 100);
        x.fertile(100);
        x.person(0, -1, -1, 0, 0);
        Due.is("11: none who is she", x.years(3), 0);
        x.person(0, -1, -1, 1, 1);
        x.person(0, -1, -1, 0, 2);
        x.person(0, -1, -1, 1, 3);
        x.seed(9);
        z = next(9);
        Due.is("11: a birth", x.years(1), 1);
        z = next(z);
        Due.is("11: father", x.told(4, 1), new int[] {0, 2}[(z >>> 8) % 2]);
        z = next(z);
        Due.is("11: mother", x.told(4, 2), new int[] {1, 3}[(z >>> 8) % 2]);
        z = next(z);
        Due.is("11: sex", x.told(4, 3), (z >>> 8) % 2);
        z = next(z);
        Due.is("11: kind", x.told(4, 0), (z >>> 8) % 6);
        z = next(z);
        Due.is("11: first", x.told(4, 4), (z >>> 8) % 8);
        Due.is("11: not barred", x.told(4, 5), 0);
        Due.is("11: six draws", x.count(7), z);
        Due.is("11: up to fourteen", x.years(50), 9);
        z = x.count(7);
        Due.is("11: no room", x.years(2), 0);
        Due.is("11: one draw a year without room", x.count(7), next(next(z)));
        x.fertile(0);
        LionShield y = new LionShield();
        y.deal(6);
        y.fertile(0);
        Due.is("11: none is fertile", y.years(100), 0);
    }

    private static void lastYear() {
        LionShield x = new LionShield();
        for (int i = 0; i < 99; i++) {
            x.years(100);
        }
        x.years(98);
        Due.is("11: 9998", x.count(1), 9998);
        int z = x.count(7);
        x.years(100);
        Due.is("11: no more than up to 9999", x.count(1), 9999);
        Due.is("11: one draw for it", x.count(7), next(z));
        Due.is("11: no year left", x.years(5), 0);
        Due.is("11: no draw then", x.count(7), next(z));
        x.person(0, -1, -1, 0, 0);
        x.person(0, -1, -1, 1, 0);
        x.fertile(100);
        Due.is("18: what is thought has no last year", x.behind(3, 0), 5);
        Due.is("19: nor has the first born", x.born(), 1);
        x.keep();
        Due.is("39: no years to tell at 9999", x.check(30), 0);
        x.tell(2);
        Due.is("39: one too many at 9999", x.check(1), 1);
    }

    private static void alike() {
        LionShield x = new LionShield();
        x.person(0, -1, -1, 0, 1);
        x.person(2, -1, -1, 1, 1);
        x.person(4, -1, -1, 1, 1);
        Due.is("12: alike", x.alike(0, 1), 1);
        Due.is("12: not alike", x.alike(0, 2), 0);
        Due.is("12: either way", x.alike(2, 1), 0);
        Due.is("12: the same", x.alike(1, 1), Due.BAD);
        Due.is("12: one not there", x.alike(3, 1), Due.BAD);
        Due.is("12: other not there", x.alike(1, 3), Due.BAD);
        Due.is("12: -1", x.alike(-1, 0), Due.BAD);
        x.set(0, 5, 2);
        Due.is("12: a bar counts", x.alike(0, 1), 0);
        x.set(1, 5, 2);
        x.set(2, 5, 2);
        Due.is("12: nothing is alike too", x.alike(1, 2), 1);
        x.set(0, 5, 0);
        x.person(0, -1, -1, 0, 7);
        Due.is("12: the last charge counts", x.alike(3, 2), 0);
        x.person(0, -1, -1, 0, 0);
        Due.is("12: the first charge counts", x.alike(4, 2), 0);
    }

    private static void land() {
        LionShield x = new LionShield();
        for (int i = 0; i < 3; i++) {
            x.person(0, -1, -1, 0, 1);
        }
        x.person(0, -1, -1, 1, 2);
        x.person(0, -1, -1, 1, 2);
        Due.is("13: three two and one two", x.land(0), 4);
        Due.is("13: he", x.land(1), 3);
        Due.is("13: she", x.land(2), 2);
        Due.is("13: heiresses", x.land(3), 24);
        x.person(0, 0, 3, 1, 0);
        x.person(0, 0, 3, 0, 0);
        Due.is("13: with a brother none", x.land(3), 24);
        LionShield y = new LionShield();
        y.person(0, -1, -1, 1, 1);
        Due.is("13: number 0 an heiress", y.land(3), 1);
        Due.is("13: -1", x.land(-1), Due.BAD);
        Due.is("13: 4", x.land(4), Due.BAD);
    }

    private static void sixteenth() {
        LionShield x = new LionShield();
        x.person(0, -1, -1, 0, 1);
        x.person(4, -1, -1, 1, 1);
        x.person(0, -1, -1, 0, 2);
        x.person(0, 2, 1, 1, 0);
        // 3 bears 4 of charge 1, by the mother; 4 bears 2 of it
        x.person(0, 2, 3, 1, 0);
        Due.is("14: 4 at least", x.sixteenth(1), 0b1011);
        Due.is("14: of another one", x.sixteenth(2), 0b11100);
        Due.is("14: of none", x.sixteenth(7), 0);
        x.set(0, 5, 2);
        Due.is("14: barred", x.sixteenth(1), 0b1010);
        Due.is("14: -1", x.sixteenth(-1), Due.BAD);
        Due.is("14: 8", x.sixteenth(8), Due.BAD);
    }

    private static void from() {
        LionShield x = new LionShield();
        x.person(0, -1, -1, 0, 1);
        x.person(0, -1, -1, 1, 1);
        x.person(0, -1, -1, 0, 2);
        x.person(0, -1, 1, 1, 3);
        x.person(5, 2, 3, 0, 4);
        Due.is("15: through a founder's mother", x.from(4, 1), 1);
        Due.is("15: by the father", x.from(4, 2), 2);
        Due.is("15: by the mother", x.from(4, 3), 3);
        Due.is("15: a FIRST of one with a father is none", x.from(4, 4), Due.NONE);
        Due.is("15: itself", x.from(0, 1), 0);
        Due.is("15: not of others", x.from(2, 1), Due.NONE);
        x.person(0, 0, 3, 0, 0);
        Due.is("15: the oldest", x.from(5, 1), 0);
        x.person(0, 5, 3, 0, 0);
        Due.is("15: further up", x.from(6, 1), 0);
        Due.is("15: charge 8", x.from(0, 8), Due.BAD);
        Due.is("15: charge -1", x.from(0, -1), Due.BAD);
        Due.is("15: one 7", x.from(7, 0), Due.BAD);
        Due.is("15: one -1", x.from(-1, 0), Due.BAD);
    }

    private static void match() {
        LionShield x = new LionShield();
        x.person(0, -1, -1, 0, 1);
        Due.is("16: nobody", x.match(0, 1, 0), Due.NONE);
        Due.is("16: nobody, how much", x.match(0, 1, 1), Due.NONE);
        x.person(0, -1, -1, 0, 2);
        x.person(0, -1, -1, 1, 2);
        x.person(0, -1, -1, 1, 1);
        Due.is("16: with whom", x.match(0, 1, 0), 3);
        Due.is("16: how much", x.match(0, 1, 1), 64);
        Due.is("16: of several the least", x.match(0, 7, 0), 2);
        Due.is("16: none of it", x.match(0, 7, 1), 0);
        Due.is("16: she asks", x.match(2, 1, 0), 0);
        Due.is("16: she asks, how much", x.match(2, 1, 1), 32);
        x.person(0, 1, 2, 1, 0);
        x.person(0, 1, 2, 0, 0);
        // 4 is no heiress, so a child of 0 and 4 is as 0
        Due.is("16: no heiress", x.match(0, 1, 0), 3);
        x.set(3, 5, 2);
        Due.is("16: from under the bar", x.match(0, 1, 1), 64);
        x.set(0, 5, 2);
        x.turns(3, 4);
        Due.is("16: the least who brings nothing in", x.match(0, 1, 0), 4);
        Due.is("16: of him under the bar", x.match(0, 1, 1), 64);
        Due.is("16: what 2", x.match(0, 1, 2), Due.BAD);
        Due.is("16: what -1", x.match(0, 1, -1), Due.BAD);
        Due.is("16: charge 8", x.match(0, 8, 0), Due.BAD);
        Due.is("16: charge -1", x.match(0, -1, 0), Due.BAD);
        Due.is("16: one 6", x.match(6, 0, 0), Due.BAD);
        Due.is("16: one -1", x.match(-1, 0, 0), Due.BAD);
    }

    private static void matchByLaw() {
        LionShield x = new LionShield();
        x.person(0, -1, -1, 0, 1);
        x.person(0, -1, -1, 1, 2);
        Due.is("16: a law", Due.text(x, "join m*3+n"), 0);
        Due.is("16: held within 64", x.match(0, 2, 1), 64);
        Due.text(x, "join f-m*2");
        Due.is("16: 0 at least", x.match(0, 2, 1), 0);
        Due.text(x, "join f/2+n");
        Due.is("16: by n", x.match(0, 1, 1), 33);
    }

    /** A full land whose people are all alike. */
    private static void fourteenOfOne() {
        LionShield x = new LionShield();
        for (int i = 0; i < 14; i++) {
            x.person(0, -1, -1, i % 2, 6);
        }
        Due.is("13: all two", x.land(0), 91);
        Due.is("13: all heiresses", x.land(3), 0x2AAA);
        Due.is("14: all", x.sixteenth(6), 0x3FFF);
        Due.is("12: the last two", x.alike(13, 12), 1);
        Due.is("15: the last", x.from(13, 6), 13);
        Due.is("16: the last", x.match(13, 6, 0), 0);
        Due.is("16: all of it", x.match(13, 6, 1), 64);
        Due.is("17: one of them made 0", x.repaint(), 0);
        Due.is("18: together", x.behind(100, 8), 14 * 64);
        Due.is("20: all but 6 are gone", x.gone(60, 0), 0);
        x.sheet(0, 0, 24);
        Due.is("21: all are as far", x.spoon(0, 1), 64);
        Due.is("32: the first", x.reads(0), 0);
        Due.is("31: all", x.pour(0), 14);
        Due.is("32: the first that is none of them", x.reads(0), 14);
        Due.is("40: all", x.keep(), 14);
        x.tell(14);
        x.tell(14 * 64);
        Due.is("39: all", x.check(1), 0);
        Due.is("42: no fathers", x.count(3), 14);
    }

    private static void repaint() {
        LionShield x = new LionShield();
        x.person(0, -1, -1, 0, 0);
        x.person(0, -1, -1, 1, 1);
        Due.is("17: none is better", x.repaint(), Due.NONE);
        x.person(0, -1, -1, 1, 1);
        // 1 made 0 clashes with 0; 1 made 2 is the least that leaves none
        Due.is("17: the least", x.repaint(), 12);
        Due.is("17: nothing changes", x.told(1, 4), 1);
        x.person(0, -1, -1, 1, 0);
        x.person(0, -1, -1, 1, 0);
        // 0, 3, 4 and 1, 2: one of the three leaves 2, one of the two leaves 3
        Due.is("17: fewest", x.repaint(), 2);
        LionShield y = new LionShield();
        y.person(5, -1, -1, 0, 0);
        y.person(5, -1, -1, 0, 0);
        Due.is("17: bastards bear nothing of FIRST", y.repaint(), Due.NONE);
        y.turns(1, 2);
        y.turns(0, 0);
        y.person(0, 0, -1, 0, 0);
        y.person(2, 0, -1, 0, 0);
        // 0 .. 3 are alike; painted 1, 0 and 2 part from 1 and 3 (64 of FIRST and of the father's for 3)
        Due.is("17: children go with the founder", y.repaint(), 1);
        y.set(0, 5, 255);
        y.set(1, 5, 255);
        y.set(2, 5, 255);
        y.set(3, 5, 255);
        Due.is("17: all painted over", y.repaint(), Due.NONE);
        LionShield w = new LionShield();
        w.person(0, -1, -1, 0, 1);
        w.person(0, -1, -1, 1, 1);
        Due.is("17: charge 0 is another one too", w.repaint(), 0);
        w.turns(0, 5);
        Due.is("17: none is alike", w.repaint(), Due.NONE);
    }
}
