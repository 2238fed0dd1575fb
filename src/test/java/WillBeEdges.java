/** Edges of what is only thought (part 3 of the terms), and of promises 18 to 23. */
final class WillBeEdges {
    private static final int BAD = Due.BAD;

    private WillBeEdges() {
    }

    static void all() {
        onlyThought();
        behind();
        born();
        gone();
        spoonTerms();
        spoon();
        fee();
        fine();
    }

    private static void onlyThought() {
        Edge.says(0, "(All that follows is only thought, from now on, z as it is, without the bound of THE YEAR: nothing"
            + " changes.)");
        State last = YearsEdges.inYear(9999);
        Edge.refused("behind 9999", last, x -> x.behind(3, 0), 5);
        Edge.refused("behind 9999, to the full", last, x -> x.behind(100, 0), 14);
        Edge.refused("born behind 9999", last, LionShield::born, 1);
        State thirteen = YearsEdges.many(13);
        Edge.refused("14 at most", thirteen, x -> x.behind(100, 0), 14);
        Edge.refused("from now on, not from the image", Lands.SOME, x -> x.behind(0, 0), 5);
        LionShield x = Lands.SOME.make();
        int thought = x.behind(7, 0);
        x.years(7);
        Edge.is("z as it is", x.count(0), thought);
    }

    private static void behind() {
        Edge.says(0, "BEHIND n YEARS: how many PEOPLE; CLASHES; what all bear of a CHARGE, together.");
        LionShield x = YearsEdges.many(14).make();
        Edge.is("together, two of 0", x.behind(0, 2), 128);
        Edge.is("together, one of 7", x.behind(0, 9), 64);
        x.set(7, 5, 128);
        Edge.is("what is BARRED is not borne", x.behind(0, 9), 0);
        Edge.is("CLASHES", x.behind(100, 1), 6);
        Edge.says(18, "BEHIND n (0 .. 100) YEARS: what 0 how many PEOPLE, 1 CLASHES; 2 and c: what all bear of CHARGE c, together."
            + " BAD.");
        Edge.beyond("n", Lands.SOME, (y, v) -> y.behind(v, 0), 0, 100, BAD);
        Edge.beyond("what", Lands.SOME, (y, v) -> y.behind(0, v), 0, 9, BAD);
        Edge.beyond("what, n 100", Lands.SOME, (y, v) -> y.behind(100, v), 0, 9, BAD);
        for (int what = 0; what < 10; what++) {
            int w = what;
            Edge.refused("nobody behind 0, what " + w, Lands.EMPTY, y -> y.behind(0, w), 0);
            Edge.refused("nobody behind 100, what " + w, Lands.EMPTY, y -> y.behind(100, w), 0);
        }
        hundred(Lands.SOME.make(), Lands.SOME.make());
    }

    private static void hundred(LionShield x, LionShield y) {
        y.years(100);
        Edge.is("100, PEOPLE", x.behind(100, 0), y.count(0));
        Edge.is("100, CLASHES", x.behind(100, 1), y.land(0));
        for (int charge = 0; charge < 8; charge++) {
            Edge.is("100, CHARGE " + charge, x.behind(100, 2 + charge), Lands.together(y, charge));
        }
    }

    private static void born() {
        Edge.says(0, "FIRST BORN: behind how many YEARS (1 .. 200) there is one more than now first.");
        for (int year : new int[] {1, 2, 199, 200, 201}) {
            State state = firstBornIn(year);
            Edge.refused("first in " + year, state, LionShield::born, year <= 200 ? year : Due.NONE);
            LionShield x = state.make();
            x.years(1);
            Edge.is("a year later", x.born() == 0 ? 0 : 1, 1);
        }
        LionShield x = firstBornIn(201).make();
        x.years(1);
        Edge.is("in 201, a year later", x.born(), 200);
        Edge.says(19, "FIRST BORN. NONE: not by then.");
        Edge.refused("nobody", Lands.EMPTY, LionShield::born, Due.NONE);
        Edge.refused("no room", YearsEdges.many(14), LionShield::born, Due.NONE);
        Edge.refused("the last room", YearsEdges.many(13), LionShield::born, 1);
        Edge.refused("FERTILE 0", Lands.TWO.then("FERTILE 0", y -> y.fertile(0)), LionShield::born, Due.NONE);
    }

    /** Two people whose first child comes in this year; FERTILE is 1, so that they can wait for long. */
    private static State firstBornIn(int year) {
        for (int seed = 0; seed < 1000000; seed++) {
            int z = seed;
            int at = 0;
            do {
                z = YearsEdges.next(z);
                at++;
            } while ((z >>> 8) % 100 != 0 && at <= year);
            if (at == year) {
                int found = seed;
                return Lands.TWO.then("born in " + year, x -> {
                    x.fertile(1);
                    x.seed(found);
                });
            }
        }
        return Lands.TWO;
    }

    private static void gone() {
        Edge.says(0, "GONE for n: the CHARGE that fewest bear (any part of it) behind n YEARS; of several the least.");
        State seven = new State("none of 7", () -> {
            LionShield x = new LionShield();
            for (int i = 0; i < 7; i++) {
                x.person(0, -1, -1, 0, i);
            }
            return x;
        });
        Edge.refused("the last CHARGE", seven, x -> x.gone(0, 0), 7);
        Edge.refused("by nobody", seven, x -> x.gone(0, 1), 0);
        State all = seven.then("a foundling of 7", x -> x.person(4, -1, -1, 0, 7));
        Edge.refused("of several the least", all, x -> x.gone(0, 0), 0);
        Edge.refused("by one each", all, x -> x.gone(0, 1), 1);
        anyPart();
        State most = new State("thirteen bear all", () -> {
            LionShield x = new LionShield();
            for (int i = 0; i < 14; i++) {
                x.person(0, i == 0 ? -1 : 0, -1, 0, 0);
            }
            Due.text(x, "join 1");
            return x;
        });
        Edge.refused("the fewest are thirteen", most, x -> x.gone(0, 1), 13);
        Edge.refused("all bear 0, so it is 1", most, x -> x.gone(60, 0), 1);
        Edge.says(20, "GONE for n (0 .. 60): what 0 the CHARGE, 1 how many bear it. BAD.");
        Edge.beyond("n", Lands.SOME, (x, v) -> x.gone(v, 0), 0, 60, BAD);
        Edge.beyond("what", Lands.SOME, (x, v) -> x.gone(0, v), 0, 1, BAD);
        Edge.refused("nobody", Lands.EMPTY, x -> x.gone(0, 0), 0);
        Edge.refused("nobody, by how many", Lands.EMPTY, x -> x.gone(60, 1), 0);
        sixty();
    }

    /** All bear one part of each by this law; number 1 bears what its FIRST gives. */
    private static void anyPart() {
        for (int parts = 0; parts < 3; parts++) {
            LionShield x = new LionShield();
            x.person(0, -1, -1, 0, 0);
            x.person(0, 0, -1, 0, 0);
            Due.text(x, "join (n<1)*64+(n>0)*" + parts);
            Edge.is(parts + " parts of the others", x.gone(0, 1), parts == 0 ? 0 : 1);
        }
    }

    private static void sixty() {
        LionShield x = Lands.SOME.make();
        LionShield y = Lands.SOME.make();
        y.years(60);
        int least = 0;
        int fewest = 15;
        for (int charge = 0; charge < 8; charge++) {
            int bear = 0;
            for (int one = 0; one < y.count(0); one++) {
                bear += y.bears(one, charge) >= 1 ? 1 : 0;
            }
            if (bear < fewest) {
                least = charge;
                fewest = bear;
            }
        }
        Edge.is("60", x.gone(60, 0), least);
        Edge.is("60, by how many", x.gone(60, 1), fewest);
    }

    private static void spoonTerms() {
        Edge.says(0, "SPOON by a SHEET: the one whose SHIELD and places 0 .. 7 that are numbers differ least (signs left out; other"
            + " places: 0), together; of several the least.");
        LionShield x = Lands.TWO.make();
        x.person(0, -1, -1, 0, 2);
        x.sheet(0, 1, 24);
        Edge.is("of several the least", x.spoon(0, 0), 0);
        x.mark(0, 2, 1);
        Edge.is("of the last two the least", x.spoon(0, 0), 1);
        x.mark(0, 2, 64);
        Edge.is("none differ", x.spoon(0, 1), 0);
        x.mark(0, 2, 65);
        Edge.is("1 above", x.spoon(0, 1), 1);
        x.mark(0, 2, 63);
        Edge.is("1 below", x.spoon(0, 1), 1);
        x.mark(0, 7, -9);
        Edge.is("place 7 counts", x.spoon(0, 1), 10);
        x.mark(0, 0, 9);
        Edge.is("place 0 counts", x.spoon(0, 1), 19);
        x.mark(0, 8, 1000);
        Edge.is("place 8 does not", x.spoon(0, 1), 19);
        x.mark(0, 2, Due.NONE);
        Edge.is("NO NUMBER", x.spoon(0, 1), 18);
        Edge.is("NO NUMBER, who", x.spoon(0, 0), 1);
        farthest();
        shortSheets();
    }

    private static void farthest() {
        LionShield x = Lands.TWO.make();
        x.sheet(0, 0, 8);
        x.sheet(1, 1, 8);
        for (int place = 0; place < 8; place++) {
            x.mark(0, place, -32768);
            x.mark(1, place, -99999);
        }
        Edge.is("the least shorts", x.spoon(0, 1), 8 * 32768 + 64);
        Edge.is("the least floats", x.spoon(1, 1), 8 * 99999 + 64);
        for (int place = 0; place < 8; place++) {
            x.mark(0, place, 32767);
            x.mark(1, place, 99999);
        }
        Edge.is("the most shorts", x.spoon(0, 1), 8 * 32767 - 64);
        Edge.is("the most floats", x.spoon(1, 1), 8 * 99999 - 64);
    }

    private static void shortSheets() {
        LionShield x = Lands.TWO.make();
        x.sheet(0, 0, 0);
        Edge.is("no places", x.spoon(0, 1), 0);
        Edge.is("no places, who", x.spoon(0, 0), 0);
        x.sheet(0, 0, 2);
        Edge.is("places 0 and 1", x.spoon(0, 0), 1);
        x.sheet(0, 0, 3);
        Edge.is("places 0 to 2", x.spoon(0, 0), 0);
    }

    private static void spoon() {
        Edge.says(21, "SPOON by a SHEET: what 0 who, 1 the differences, together. BAD; NOTHING; NONE: there is nobody.");
        Edge.beyond("sheet", Lands.SOME, (x, v) -> x.spoon(v, 0), 0, 3, BAD);
        Edge.beyond("what", Lands.SOME, (x, v) -> x.spoon(0, v), 0, 1, BAD);
        Edge.refused("MISSING", Lands.SOME, x -> x.spoon(3, 0), Due.NOTHING);
        Edge.refused("BAD ahead of NOTHING", Lands.SOME, x -> x.spoon(3, 2), BAD);
        Edge.refused("NOTHING ahead of NONE", Lands.EMPTY, x -> x.spoon(3, 1), Due.NOTHING);
        State sheet = Lands.EMPTY.then("a sheet", x -> x.sheet(3, 0, 8));
        Edge.refused("nobody", sheet, x -> x.spoon(3, 0), Due.NONE);
        Edge.refused("nobody, the differences", sheet, x -> x.spoon(3, 1), Due.NONE);
        Edge.refused("BAD ahead of NONE", sheet, x -> x.spoon(3, -1), BAD);
        State last = Lands.TWO.then("a sheet", x -> x.sheet(3, 0, 8));
        Edge.refused("it only tells", last, x -> x.spoon(3, 1), 64);
    }

    private static void fee() {
        Edge.says(0, "what fee gives is told by fee(); without a TEXT: how many PEOPLE");
        Edge.refused("nobody", Lands.EMPTY, LionShield::fee, 0);
        Edge.refused("fourteen", YearsEdges.many(14), LionShield::fee, 14);
        Edge.says(22, "What fee gives.");
        Edge.refused("it only tells", Lands.SOME, LionShield::fee, 305);
        Edge.refused("y 9999", Lands.FULL, LionShield::fee, 9999);
        LionShield x = new LionShield();
        Due.text(x, "fee y+p");
        Edge.is("y 0, p 0", x.fee(), 0);
        x.keep();
        x.deal(14);
        Edge.is("p 14", x.fee(), 14);
    }

    private static void fine() {
        Edge.says(0, "of fine a FIRST, b how many are BARRED (what fine gives for one is told by fine(); without a TEXT: FIRST).");
        LionShield x = Lands.TWO.make();
        x.set(0, 4, 0);
        x.set(1, 4, 7);
        Edge.is("FIRST 0", x.fine(0), 0);
        Edge.is("FIRST 7", x.fine(1), 7);
        Due.text(x, "fine a*100+b");
        Edge.is("b 0", x.fine(1), 700);
        for (int bars = 0; bars <= 8; bars++) {
            x.set(1, 5, (1 << bars) - 1);
            Edge.is("b " + bars, x.fine(1), 700 + bars);
        }
        x.set(1, 5, 128);
        Edge.is("the last CHARGE alone", x.fine(1), 701);
        Edge.says(23, "What fine gives for one. BAD.");
        Edge.beyond("one", Lands.TWO, LionShield::fine, 0, 1, BAD);
        Edge.beyond("one, with a text", Lands.SOME, LionShield::fine, 0, 4, BAD);
        Edge.refused("the last", Lands.FULL, y -> y.fine(13), 17);
        Edge.refused("one more", Lands.FULL, y -> y.fine(14), BAD);
        Edge.refused("nobody", Lands.EMPTY, y -> y.fine(0), BAD);
    }
}
