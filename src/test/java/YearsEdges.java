/** Edges of parts 2 and 3 of the terms, and of promises 11 to 17. */
final class YearsEdges {
    private static final int BAD = Due.BAD;

    private YearsEdges() {
    }

    static void all() {
        belowFertile();
        room();
        oneOfEach();
        whoIsDrawn();
        noneOfBarred();
        draws();
        drawnPeople();
        lastYear();
        years();
        alike();
        land();
        sixteenth();
        from();
        match();
        repaint();
        repaintEnds();
    }

    /** What z becomes, told without wrapping ints. */
    static int next(int z) {
        return (int) (z * 1103515245L + 12345L);
    }

    private static int draw(int z) {
        return (int) ((z & 0xFFFFFFFFL) / 256);
    }

    /** The first z whose draw number n (from 1) has this rest. */
    private static int seedFor(int n, int by, int rest) {
        for (int seed = 0; seed < 100000; seed++) {
            int z = seed;
            for (int i = 0; i < n; i++) {
                z = next(z);
            }
            if (draw(z) % by == rest) {
                return seed;
            }
        }
        return -1;
    }

    private static void belowFertile() {
        Edge.says(0, "A YEAR: a draw; if its rest by 100 is below FERTILE and there is room");
        int[][] fertileAndRest = {{0, 0}, {1, 0}, {1, 1}, {30, 29}, {30, 30}, {99, 98}, {99, 99}, {100, 0}, {100, 99}};
        for (int[] pair : fertileAndRest) {
            LionShield x = Lands.TWO.make();
            x.fertile(pair[0]);
            int seed = seedFor(1, 100, pair[1]);
            x.seed(seed);
            boolean due = pair[1] < pair[0];
            Edge.is("FERTILE " + pair[0] + ", rest " + pair[1], x.years(1), due ? 1 : 0);
            int z = next(seed);
            for (int i = 0; due && i < 5; i++) {
                z = next(z);
            }
            Edge.is("draws, FERTILE " + pair[0] + ", rest " + pair[1], x.count(7), z);
            Edge.is("THE YEAR is 1 more", x.count(1), 1);
        }
    }

    /** So many people without parents, he and she by turns. */
    static State many(int n) {
        return new State(n + " people", () -> {
            LionShield x = new LionShield();
            for (int i = 0; i < n; i++) {
                x.person(0, -1, -1, i % 2, i % 8);
            }
            x.fertile(100);
            return x;
        });
    }

    private static void room() {
        LionShield x = many(13).make();
        Edge.is("13 people", x.years(1), 1);
        int z = x.count(7);
        Edge.is("14 people", x.years(1), 0);
        Edge.is("14 people: one draw", x.count(7), next(z));
        Edge.is("14 people: THE YEAR", x.count(1), 2);
        Edge.is("13 people, 100 YEARS", many(13).make().years(100), 1);
        Edge.is("2 people, 100 YEARS", many(2).make().years(100), 12);
    }

    private static void oneOfEach() {
        Edge.says(0, "and there is one at least who is he and one who is she");
        int[] due = {0, 0, 0, 1};
        for (int who = 0; who < 4; who++) {
            LionShield x = new LionShield();
            x.fertile(100);
            if ((who & 1) != 0) {
                x.person(0, -1, -1, 0, 0);
            }
            if ((who & 2) != 0) {
                x.person(0, -1, -1, 1, 0);
            }
            int z = x.count(7);
            Edge.is("he, she by bits " + who, x.years(1), due[who]);
            if (due[who] == 0) {
                Edge.is("one draw, by bits " + who, x.count(7), next(z));
            }
        }
    }

    private static void whoIsDrawn() {
        Edge.says(0, "a draw, its rest by how many are he: the FATHER, of those who are he by numbers; a draw, likewise, the"
            + " MOTHER of those who are she; a draw: she, if its rest by 2 is 1; a draw: KIND the rest by 6; a draw: FIRST the rest"
            + " by 8; the new one is none of BARRED. THE YEAR is 1 more.");
        int[] by = {4, 3, 2, 6, 8};
        int[] what = {1, 2, 3, 0, 4};
        for (int nth = 0; nth < 5; nth++) {
            for (int rest = 0; rest < by[nth]; rest++) {
                LionShield x = many(7).make();
                x.seed(seedFor(2 + nth, by[nth], rest));
                x.years(1);
                int due = nth == 0 ? 2 * rest : nth == 1 ? 2 * rest + 1 : rest;
                Edge.is("draw " + (2 + nth) + ", rest " + rest, x.told(7, what[nth]), due);
            }
        }
    }

    /** A number that was BARRED, gone by the image and come again, is not. */
    private static void noneOfBarred() {
        LionShield x = many(2).make();
        x.keep();
        x.years(1);
        x.set(2, 5, 255);
        x.back();
        x.years(1);
        Edge.is("born where one was BARRED", x.told(2, 5), 0);
        x.set(2, 5, 255);
        x.back();
        x.person(0, -1, -1, 0, 0);
        Edge.is("come where one was BARRED", x.told(2, 5), 0);
        x.set(2, 5, 255);
        x.back();
        x.deal(1);
        Edge.is("drawn where one was BARRED", x.told(2, 5), 0);
    }

    private static void draws() {
        Edge.says(0, "z is told (1 at first). A draw: z becomes z * 1103515245 + 12345 (an int); it gives z >>> 8.");
        Edge.is("at first", new LionShield().count(7), 1);
        for (int seed : new int[] {Integer.MIN_VALUE, -2, -1, 0, 1, 2, Integer.MAX_VALUE}) {
            LionShield x = new LionShield();
            x.seed(seed);
            x.years(1);
            Edge.is("it wraps, from " + seed, x.count(7), next(seed));
        }
        int below0 = 0;
        for (int seed = 0; seed < 20; seed++) {
            LionShield x = new LionShield();
            x.seed(seed);
            x.deal(1);
            int z = next(seed);
            below0 += z < 0 ? 1 : 0;
            Edge.is("no sign comes along, from " + seed, x.told(0, 0), draw(z) % 6);
        }
        Edge.is("some of them were below 0", below0 > 0 ? 1 : 0, 1);
    }

    private static void drawnPeople() {
        Edge.says(0, "PEOPLE that are drawn (without parents): KIND the rest of a draw by 6, she, if that of one more by 2 is 1,"
            + " FIRST that of one more by 8.");
        int[] by = {6, 2, 8};
        int[] what = {0, 3, 4};
        for (int nth = 0; nth < 3; nth++) {
            for (int rest = 0; rest < by[nth]; rest++) {
                LionShield x = new LionShield();
                x.seed(seedFor(1 + nth, by[nth], rest));
                x.deal(1);
                Edge.is("draw " + (1 + nth) + ", rest " + rest, x.told(0, what[nth]), rest);
                Edge.is("no FATHER", x.told(0, 1), -1);
                Edge.is("no MOTHER", x.told(0, 2), -1);
            }
        }
    }

    /** A land of two in this year, FERTILE 0 till then. */
    static State inYear(int year) {
        return new State("in " + year, () -> {
            LionShield x = Lands.TWO.make();
            x.fertile(0);
            for (int left = year; left > 0; left -= 100) {
                x.years(Math.min(100, left));
            }
            x.fertile(100);
            return x;
        });
    }

    private static void lastYear() {
        Edge.says(0, "THE YEAR is 0 at first, 9999 at most.");
        Edge.is("at first", new LionShield().count(1), 0);
        int[][] fromAndSpan = {{9899, 100}, {9900, 99}, {9997, 2}, {9998, 1}, {9999, 0}};
        for (int[] pair : fromAndSpan) {
            LionShield x = inYear(pair[0]).make();
            x.fertile(0);
            int z = x.count(7);
            x.years(100);
            for (int i = 0; i < pair[1]; i++) {
                z = next(z);
            }
            Edge.is("THE YEAR, from " + pair[0], x.count(1), 9999);
            Edge.is("draws, from " + pair[0], x.count(7), z);
        }
        Edge.refused("no year is left", inYear(9999), x -> x.years(100), 0);
        Edge.refused("not one", inYear(9999), x -> x.years(1), 0);
    }

    private static void years() {
        Edge.says(11, "n (1 .. 100) YEARS (no more than up to 9999): how many were born in them. BAD.");
        Edge.beyond("n", Lands.SOME, LionShield::years, 1, 100, BAD);
        Edge.beyond("n, in 9999", inYear(9999), LionShield::years, 1, 100, BAD);
        LionShield x = many(2).make();
        Edge.is("1", x.years(1), 1);
        Edge.is("THE YEAR", x.count(1), 1);
        LionShield y = new LionShield();
        Edge.is("100 with nobody", y.years(100), 0);
        Edge.is("THE YEAR behind 100", y.count(1), 100);
        Edge.is("one birth up to 9999", inYear(9998).make().years(100), 1);
        Edge.is("two births up to 9999", inYear(9997).make().years(100), 2);
    }

    private static void alike() {
        Edge.says(0, "SHIELD: what one bears of CHARGES 0 .. 7. ALIKE: two whose SHIELDS are the same in all. CLASHES: how many two are"
            + " ALIKE.");
        for (int charge = 0; charge < 8; charge++) {
            LionShield x = new LionShield();
            x.person(0, -1, -1, 0, charge);
            x.person(1, -1, -1, 0, charge);
            Edge.is("64 and 62 of " + charge, x.alike(0, 1), 0);
            Edge.is("no CLASHES", x.land(0), 0);
            x.turns(1, 2);
            Edge.is("64 and 64 of " + charge, x.alike(0, 1), 1);
            Edge.is("one of CLASHES", x.land(0), 1);
            x.person(0, 0, -1, 0, 0);
            for (int other = 0; other < 8; other++) {
                Due.text(x, "join n=" + other);
                Edge.is("64 of " + charge + " and 1 of " + other, x.alike(0, 2), 0);
            }
        }
        Edge.says(12, "Whether two are ALIKE (1, 0). BAD: also one and the same.");
        Edge.refused("it only tells", Lands.TWO, x -> x.alike(1, 0), 0);
        Edge.beyond("one", Lands.TWO, (x, v) -> x.alike(v, 1), 0, 1, BAD);
        Edge.beyond("other", Lands.TWO, (x, v) -> x.alike(0, v), 0, 1, BAD);
        Edge.refused("0 and 0", Lands.TWO, x -> x.alike(0, 0), BAD);
        Edge.refused("1 and 1", Lands.TWO, x -> x.alike(1, 1), BAD);
        Edge.refused("13 and 13", Lands.FULL, x -> x.alike(13, 13), BAD);
        Edge.refused("nobody", Lands.EMPTY, x -> x.alike(0, 1), BAD);
        State alone = Lands.EMPTY.then("one", x -> x.person(0, -1, -1, 0, 0));
        Edge.refused("one alone", alone, x -> x.alike(0, 1), BAD);
    }

    private static void land() {
        Edge.says(13, "CLASHES (what 0), how many are he (1), she (2), HEIRESSES as a set (3). BAD.");
        Edge.beyond("what", Lands.SOME, LionShield::land, 0, 3, BAD);
        for (int what = 0; what < 4; what++) {
            int w = what;
            Edge.refused("nobody, what " + w, Lands.EMPTY, x -> x.land(w), 0);
        }
        int[] ofHe = {91, 14, 0, 0};
        int[] ofShe = {91, 0, 14, 0x3FFF};
        for (int what = 0; what < 4; what++) {
            int w = what;
            Edge.refused("what " + w, fourteenOf(0), x -> x.land(w), ofHe[w]);
            Edge.refused("what " + w, fourteenOf(1), x -> x.land(w), ofShe[w]);
        }
    }

    private static State fourteenOf(int sex) {
        return new State(sex == 0 ? "14 he" : "14 she", () -> {
            LionShield x = new LionShield();
            for (int i = 0; i < 14; i++) {
                x.person(0, -1, -1, sex, 7);
            }
            return x;
        });
    }

    private static void sixteenth() {
        Edge.says(0, "SIXTEENTH: all who bear 4 parts of a CHARGE at least.");
        for (int parts = 3; parts <= 5; parts++) {
            LionShield x = Lands.TWO.make();
            x.person(0, 0, 1, 0, 0);
            Due.text(x, "join " + parts);
            Edge.is(parts + " parts", x.sixteenth(6), parts >= 4 ? 4 : 0);
        }
        Edge.says(14, "SIXTEENTH of a CHARGE, as a set. BAD.");
        Edge.beyond("charge", Lands.SOME, LionShield::sixteenth, 0, 7, BAD);
        Edge.refused("nobody", Lands.EMPTY, x -> x.sixteenth(0), 0);
        Edge.refused("nobody, of 7", Lands.EMPTY, x -> x.sixteenth(7), 0);
        LionShield x = new LionShield();
        for (int i = 0; i < 14; i++) {
            x.person(0, -1, -1, 0, i < 7 ? 0 : 7);
        }
        Edge.is("the first seven", x.sixteenth(0), 0x7F);
        Edge.is("the last seven", x.sixteenth(7), 0x3F80);
        x.set(13, 5, 128);
        Edge.is("without the last", x.sixteenth(7), 0x1F80);
    }

    private static void from() {
        Edge.says(0, "FROM of one, a CHARGE: which founder (one without FATHER) of those from whom one comes (by FATHERS and"
            + " MOTHERS, itself, too) with that FIRST is oldest (NONE: none is).");
        LionShield x = new LionShield();
        for (int i = 0; i < 13; i++) {
            x.person(0, i > 1 && i % 2 == 0 ? i - 2 : -1, i > 1 && i % 2 == 1 ? i - 2 : -1, i % 2, i % 8);
        }
        x.person(0, 12, 11, 0, 6);
        Edge.is("by six FATHERS", x.from(13, 0), 0);
        Edge.is("by six MOTHERS, the oldest", x.from(13, 1), 1);
        Edge.is("a founder with a MOTHER", x.from(13, 7), 7);
        Edge.is("FIRST of those with a FATHER", x.from(13, 6), Due.NONE);
        Edge.is("itself", x.from(11, 3), 3);
        Edge.is("itself alone", x.from(0, 0), 0);
        Edge.says(15, "FROM of one, a CHARGE. BAD; NONE: none is.");
        Edge.refused("it only tells", Lands.TWO, y -> y.from(1, 2), 1);
        Edge.refused("none is", Lands.TWO, y -> y.from(1, 7), Due.NONE);
        Edge.refused("one who is older, but not of its line", Lands.TWO, y -> y.from(1, 1), Due.NONE);
        Edge.refused("one who is younger", Lands.TWO, y -> y.from(0, 2), Due.NONE);
        Edge.beyond("one", Lands.TWO, (y, v) -> y.from(v, 0), 0, 1, BAD);
        Edge.beyond("charge", Lands.TWO, (y, v) -> y.from(0, v), 0, 7, BAD);
        Edge.refused("nobody", Lands.EMPTY, y -> y.from(0, 0), BAD);
    }

    private static void match() {
        Edge.says(0, "MATCH of one, a CHARGE: with whom (of those of the other sex) a child of theirs (an HEIR, he the FATHER, she"
            + " the MOTHER, HEIRESS as she is) would bear most of it; of several the least number; how much.");
        LionShield x = many(14).make();
        Edge.is("of several the least, he", x.match(12, 0, 0), 1);
        Edge.is("of several the least, she", x.match(13, 1, 0), 0);
        Edge.is("the most comes from another one", x.match(12, 7, 0), 7);
        Edge.is("0 parts are most, too", x.match(12, 6, 1), 0);
        x.set(13, 4, 6);
        Edge.is("the last of all", x.match(12, 6, 0), 13);
        Edge.is("how much of it", x.match(12, 6, 1), 32);
        Due.text(x, "join 99");
        Edge.is("64 at most", x.match(12, 6, 1), 64);
        Due.text(x, "join f*100+m");
        Edge.is("he is f, when she is asked", x.match(1, 2, 0), 2);
        Edge.is("she is m", x.match(1, 1, 0), 0);
        Edge.is("she is m, how much", x.match(1, 1, 1), 64);
        Edge.says(16, "MATCH of one, a CHARGE: what 0 with whom, 1 how much. BAD; NONE: there is nobody.");
        Edge.refused("it only tells", Lands.TWO, y -> y.match(0, 2, 0), 1);
        Edge.refused("it only tells how much", Lands.TWO, y -> y.match(1, 2, 1), 32);
        Edge.beyond("one", Lands.TWO, (y, v) -> y.match(v, 0, 0), 0, 1, BAD);
        Edge.beyond("charge", Lands.TWO, (y, v) -> y.match(0, v, 0), 0, 7, BAD);
        Edge.beyond("what", Lands.TWO, (y, v) -> y.match(0, 0, v), 0, 1, BAD);
        for (int sex = 0; sex < 2; sex++) {
            State one = fourteenOf(sex);
            Edge.refused("nobody", one, y -> y.match(0, 0, 0), Due.NONE);
            Edge.refused("nobody, how much", one, y -> y.match(0, 0, 1), Due.NONE);
            Edge.refused("BAD ahead of NONE", one, y -> y.match(0, 0, 2), BAD);
        }
    }

    private static void repaint() {
        Edge.says(0, "REPAINT: the founder (KIND as it is) whose FIRST, made another CHARGE, leaves fewest CLASHES, fewer than now;"
            + " 10 times it, and the CHARGE; of several the least.");
        Edge.refused("no CLASHES", Lands.TWO, LionShield::repaint, Due.NONE);
        State bastards = Lands.EMPTY.then("two bastards", x -> {
            x.person(5, -1, -1, 0, 0);
            x.person(5, -1, -1, 0, 0);
        });
        Edge.refused("as many as now is not fewer", bastards, LionShield::repaint, Due.NONE);
        State children = Lands.TWO.then("two foundlings with a father", x -> {
            x.person(4, 0, -1, 0, 5);
            x.person(4, 0, -1, 0, 5);
        });
        Edge.refused("those with a FATHER are no founders", children, LionShield::repaint, Due.NONE);
        State mothers = Lands.TWO.then("two foundlings with a mother", x -> {
            x.person(4, -1, 1, 0, 5);
            x.person(4, -1, 1, 0, 5);
        });
        Edge.refused("those with a MOTHER alone are", mothers, LionShield::repaint, 20);
        State same = Lands.EMPTY.then("two of 0", x -> {
            x.person(0, -1, -1, 0, 0);
            x.person(0, -1, -1, 0, 0);
        });
        Edge.refused("FIRST as it is is no other CHARGE", same, LionShield::repaint, 1);
        State barred = same.then("barred", x -> {
            x.set(0, 5, 255);
            x.set(1, 5, 255);
        });
        Edge.refused("all BARRED", barred, LionShield::repaint, Due.NONE);
    }

    private static void repaintEnds() {
        State first = new State("only 7 is free", () -> {
            LionShield x = new LionShield();
            for (int i = 0; i < 8; i++) {
                x.person(0, -1, -1, 0, Math.max(0, i - 1));
            }
            return x;
        });
        Edge.refused("the first, the last CHARGE", first, LionShield::repaint, 7);
        State last = new State("only the last can", () -> {
            LionShield x = new LionShield();
            x.person(0, -1, -1, 0, 0);
            for (int i = 1; i < 8; i++) {
                x.person(4, 0, -1, 0, i - 1);
            }
            for (int i = 8; i < 13; i++) {
                x.person(0, -1, -1, 0, i - 7);
            }
            x.person(4, -1, -1, 0, 0);
            return x;
        });
        Edge.refused("the last, the last CHARGE", last, LionShield::repaint, 137);
        Edge.says(17, "REPAINT. NONE: none is better.");
        Edge.refused("nobody", Lands.EMPTY, LionShield::repaint, Due.NONE);
        State alone = Lands.EMPTY.then("one", x -> x.person(0, -1, -1, 0, 0));
        Edge.refused("one alone", alone, LionShield::repaint, Due.NONE);
    }
}
