/** Promises 18 to 23. */
public final class WhatWillBeTest {
    public static void main(String[] args) {
        behind();
        born();
        gone();
        spoon();
        fee();
        fine();
        Due.end();
    }

    private static LionShield dealt(int z) {
        LionShield x = new LionShield();
        x.seed(z);
        x.deal(5);
        x.person(0, -1, -1, 0, 1);
        x.person(0, -1, -1, 1, 2);
        return x;
    }

    private static void behind() {
        for (int z = 0; z < 40; z++) {
            LionShield x = dealt(z);
            LionShield y = dealt(z);
            int n = 1 + 2 * z;
            if (n > 100) {
                break;
            }
            y.years(n);
            Due.is("18: people " + z, x.behind(n, 0), y.count(0));
            Due.is("18: clashes " + z, x.behind(n, 1), y.land(0));
            for (int charge = 0; charge < 8; charge++) {
                int all = 0;
                for (int one = 0; one < y.count(0); one++) {
                    all += y.bears(one, charge);
                }
                Due.is("18: of charge " + charge, x.behind(n, 2 + charge), all);
            }
            Due.is("18: only thought, z", x.count(7), dealt(z).count(7));
            Due.is("18: only thought, year", x.count(1), 0);
            Due.is("18: only thought, people", x.count(0), 7);
        }
        LionShield x = dealt(3);
        Due.is("18: n 0", x.behind(0, 0), 7);
        x.fertile(0);
        Due.is("18: n 100", x.behind(100, 0), 7);
        LionShield y = new LionShield();
        y.person(0, -1, -1, 0, 1);
        y.person(0, 0, -1, 0, 1);
        Due.text(y, "join 3");
        Due.is("18: by the law", y.behind(0, 3), 67);
        Due.is("18: by the law, another charge", y.behind(0, 2), 3);
        Due.is("18: n -1", x.behind(-1, 0), Due.BAD);
        Due.is("18: n 101", x.behind(101, 0), Due.BAD);
        Due.is("18: what -1", x.behind(0, -1), Due.BAD);
        Due.is("18: what 10", x.behind(0, 10), Due.BAD);
        x.set(5, 5, 2);
        x.set(6, 5, 4);
        int bare = x.behind(0, 3);
        x.set(5, 5, 0);
        Due.is("18: barred parts do not count", x.behind(0, 3), bare + 64);
    }

    private static void born() {
        Due.is("19: nobody", new LionShield().born(), Due.NONE);
        LionShield x = dealt(4);
        int due = Due.NONE;
        LionShield y = dealt(4);
        for (int year = 1; year <= 200 && due == Due.NONE; year++) {
            due = y.years(1) == 1 ? year : due;
        }
        Due.is("19: as the years go", x.born(), due);
        Due.is("19: only thought", x.count(0), 7);
        x.fertile(100);
        Due.is("19: at once", x.born(), 1);
        x.fertile(0);
        Due.is("19: never", x.born(), Due.NONE);
        x.fertile(100);
        x.deal(14);
        Due.is("19: no room", x.born(), Due.NONE);
        // The first z from which the one birth in 100 comes in year 200, and the first from which in 201.
        Due.is("19: in year 200", rare(200).born(), 200);
        Due.is("19: in year 201", rare(201).born(), Due.NONE);
    }

    private static LionShield rare(int year) {
        LionShield x = new LionShield();
        x.person(0, -1, -1, 0, 1);
        x.person(0, -1, -1, 1, 2);
        x.fertile(1);
        for (int seed = 0; seed < 1000000; seed++) {
            int z = seed;
            int at = 0;
            do {
                z = z * 1103515245 + 12345;
                at++;
            } while ((z >>> 8) % 100 != 0 && at <= year);
            if (at == year) {
                x.seed(seed);
                return x;
            }
        }
        return x;
    }

    private static void gone() {
        LionShield x = new LionShield();
        Due.is("20: nobody", x.gone(60, 0), 0);
        for (int charge = 7; charge >= 0; charge--) {
            x.person(0, -1, -1, charge % 2, charge);
        }
        Due.is("20: of several the least", x.gone(0, 0), 0);
        Due.is("20: one each", x.gone(0, 1), 1);
        x.person(4, -1, -1, 0, 0);
        Due.is("20: any part of it", x.gone(0, 0), 1);
        x.set(5, 5, 4);
        Due.is("20: barred", x.gone(0, 0), 2);
        Due.is("20: by none", x.gone(0, 1), 0);
        x.set(5, 5, 0);
        x.fertile(100);
        LionShield y = new LionShield();
        for (int charge = 7; charge >= 0; charge--) {
            y.person(0, -1, -1, charge % 2, charge);
        }
        y.person(4, -1, -1, 0, 0);
        y.fertile(100);
        y.years(4);
        int least = 0;
        int fewest = 99;
        for (int charge = 0; charge < 8; charge++) {
            int bear = 0;
            for (int one = 0; one < y.count(0); one++) {
                bear += y.bears(one, charge) > 0 ? 1 : 0;
            }
            if (bear < fewest) {
                fewest = bear;
                least = charge;
            }
        }
        Due.is("20: behind 4 years", x.gone(4, 0), least);
        Due.is("20: behind 4 years, how many", x.gone(4, 1), fewest);
        Due.is("20: only thought", x.count(0), 9);
        Due.is("20: -1", x.gone(-1, 0), Due.BAD);
        Due.is("20: 61", x.gone(61, 0), Due.BAD);
        Due.is("20: what 2", x.gone(0, 2), Due.BAD);
        Due.is("20: what -1", x.gone(0, -1), Due.BAD);
    }

    private static void spoon() {
        LionShield x = new LionShield();
        Due.is("21: missing", x.spoon(0, 0), Due.NOTHING);
        x.sheet(0, 1, 24);
        Due.is("21: nobody", x.spoon(0, 0), Due.NONE);
        Due.is("21: nobody, how much", x.spoon(0, 1), Due.NONE);
        x.person(0, -1, -1, 0, 0);
        x.person(0, -1, -1, 0, 7);
        x.person(1, -1, -1, 0, 7);
        x.mark(0, 7, 63);
        Due.is("21: of several the least", x.spoon(0, 0), 1);
        Due.is("21: 64 and 63", x.spoon(0, 1), 1);
        x.mark(0, 7, 62);
        Due.is("21: whose it is", x.spoon(0, 0), 2);
        x.mark(0, 8, 5000);
        Due.is("21: places above 7 do not count", x.spoon(0, 1), 0);
        x.mark(0, 0, -3);
        Due.is("21: signs are left out", x.spoon(0, 1), 3);
        x.mark(0, 7, Due.NONE);
        // 0: 67; 1 and 2: 3 at place 0, and place 7 tells nothing
        Due.is("21: no number sets nobody apart", x.spoon(0, 0), 1);
        Due.is("21: no number, how much", x.spoon(0, 1), 3);
        x.set(0, 5, 1);
        Due.is("21: what is barred is not borne", x.spoon(0, 0), 0);
        x.sheet(1, 0, 1);
        x.mark(1, 0, 10);
        Due.is("21: beyond the sheet nothing is told", x.spoon(1, 1), 10);
        Due.is("21: sheet -1", x.spoon(-1, 0), Due.BAD);
        Due.is("21: sheet 4", x.spoon(4, 0), Due.BAD);
        Due.is("21: what 2", x.spoon(0, 2), Due.BAD);
        Due.is("21: BAD ahead of NOTHING", x.spoon(3, -1), Due.BAD);
    }

    private static void fee() {
        LionShield x = new LionShield();
        Due.is("22: nobody", x.fee(), 0);
        x.deal(6);
        x.years(10);
        Due.is("22: without a text how many", x.fee(), x.count(0));
        Due.text(x, "fee y*100+p");
        Due.is("22: by the text", x.fee(), 1000 + x.count(0));
        Due.text(x, "join f");
        Due.is("22: another key does not count", x.fee(), 1000 + x.count(0));
        Due.text(x, "fee 7");
        Due.is("22: the last one counts", x.fee(), 7);
    }

    private static void fine() {
        LionShield x = new LionShield();
        x.person(0, -1, -1, 0, 6);
        x.set(0, 5, 7);
        Due.is("23: without a text FIRST", x.fine(0), 6);
        Due.text(x, "fine a*10+b");
        Due.is("23: by the text", x.fine(0), 63);
        x.set(0, 5, 255);
        Due.is("23: how many are barred", x.fine(0), 68);
        Due.is("23: one 1", x.fine(1), Due.BAD);
        Due.is("23: one -1", x.fine(-1), Due.BAD);
    }
}
