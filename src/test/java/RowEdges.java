/** Edges of images and of years told (part 5 of the terms), and of promises 38 to 42. */
final class RowEdges {
    private static final int BAD = Due.BAD;

    private RowEdges() {
    }

    static void all() {
        imageKeeps();
        tell();
        checkRefused();
        checkEnds();
        checkNearTheLastYear();
        keep();
        back();
        count();
    }

    private static void imageKeeps() {
        Edge.says(0, "AN IMAGE keeps all but SHEETS, SLOTS, numbers that wait, THE TAPE; all can become as it is (again and again).");
        State emptied = new State("an empty image", () -> {
            LionShield x = new LionShield();
            x.keep();
            return x;
        });
        State backAgain = emptied.then("filled, and back", x -> {
            fillLand(x);
            x.back();
        });
        State twice = backAgain.then("and again", x -> {
            fillLand(x);
            x.back();
        });
        Edge.leaves("back to nobody", backAgain, x -> 0, 0, emptied);
        Edge.leaves("back to nobody again", twice, LionShield::back, 0, emptied);
        State full = Lands.FULL.then("kept", LionShield::keep);
        State fullAgain = full.then("made otherwise, and back", x -> {
            x.turns(13, 1);
            x.set(13, 4, 1);
            x.set(13, 5, 1);
            x.fertile(1);
            x.seed(1);
            x.back();
        });
        Edge.leaves("back to the full", fullAgain, x -> 0, 0, full);
        othersStay();
    }

    /** All that an image keeps becomes otherwise. */
    private static void fillLand(LionShield x) {
        x.fertile(100);
        x.deal(9);
        x.set(0, 5, 255);
        Due.text(x, "fee 1");
        Due.text(x, "join 2");
        Due.text(x, "fine 3");
        x.years(20);
    }

    private static void othersStay() {
        LionShield x = Lands.SOME.make();
        x.back();
        Edge.is("numbers that wait", x.count(5), 2);
        Edge.is("THE TAPE", x.count(6), 10);
        Edge.is("a SHEET", x.mark(2, 23, 0), 1);
        Edge.is("a MISSING one", x.reads(3), Due.NOTHING);
        Edge.is("a SLOT", x.rest(3, 1000), 777);
        LionShield y = new LionShield();
        y.keep();
        y.sheet(0, 0, 1);
        y.lay(0, 3, 4);
        y.tell(5);
        Due.onTape(y, "fee 6");
        y.back();
        Edge.is("numbers told behind it", y.count(5), 1);
        Edge.is("a tape fed behind it", y.text(), 0);
        Edge.is("a SHEET behind it", y.reads(0), 0);
        Edge.is("a SLOT behind it", y.rest(0, 9), 4);
    }

    private static void tell() {
        Edge.says(38, "One more number waits: how many. FULL: 60 wait.");
        LionShield x = new LionShield();
        for (int n = 1; n <= 60; n++) {
            Edge.is("number " + n, x.tell(n % 2 == 0 ? Integer.MIN_VALUE : Integer.MAX_VALUE), n);
            Edge.is("so many", x.count(5), n);
        }
        Edge.is("the sixty-first", x.tell(0), Due.FULL);
        Edge.is("sixty", x.count(5), 60);
        Edge.refused("60 wait", Lands.FULL, y -> y.tell(14), Due.FULL);
        x.keep();
        x.check(1);
        Edge.is("there is room again", x.tell(0), 1);
    }

    /** One who bears 64 of CHARGE 0, alone, so that each year tells 1 and 64; an image of it, if wanted. */
    private static State alone(boolean kept, int... waiting) {
        return new State("one alone, " + waiting.length + " wait", () -> {
            LionShield x = new LionShield();
            x.person(0, -1, -1, 0, 0);
            if (kept) {
                x.keep();
            }
            for (int v : waiting) {
                x.tell(v);
            }
            return x;
        });
    }

    private static void checkRefused() {
        Edge.says(39, "The numbers that wait (none do then, whatever is answered)");
        for (boolean kept : new boolean[] {false, true}) {
            for (int n : new int[] {0, 31, Integer.MIN_VALUE, Integer.MAX_VALUE}) {
                Edge.leaves("check(" + n + ")", alone(kept, 1, 64), x -> x.check(n), BAD, alone(kept));
            }
        }
        Edge.leaves("no image", alone(false, 1, 64), x -> x.check(1), Due.NO, alone(false));
        Edge.leaves("as told", alone(true, 1, 64), x -> x.check(1), 0, alone(true));
        Edge.leaves("wrong", alone(true, 1, 63), x -> x.check(1), 2, alone(true));
        Edge.leaves("one too many", alone(true, 1, 64, 1), x -> x.check(1), 3, alone(true));
        Edge.leaves("missing", alone(true, 1), x -> x.check(1), 2, alone(true));
    }

    private static int[] rows(int years) {
        int[] all = new int[2 * years];
        for (int i = 0; i < all.length; i++) {
            all[i] = i % 2 == 0 ? 1 : 64;
        }
        return all;
    }

    private static void checkEnds() {
        Edge.says(0, "THE YEARS TOLD: of n YEARS, one behind the other, by THE IMAGE: how many PEOPLE; what all bear of CHARGE 0,"
            + " together, behind each.");
        Edge.refused("none wait, one is missing", alone(true), x -> x.check(1), 1);
        Edge.refused("none wait, sixty are missing", alone(true), x -> x.check(30), 1);
        LionShield x = alone(true, 1, 64).make();
        x.set(0, 5, 1);
        Edge.is("by THE IMAGE, not by now", x.check(1), 0);
        Edge.is("from two to fourteen, a birth each year", growing(12).check(30), 0);
        LionShield barred = alone(false, 1, 0).make();
        barred.set(0, 5, 1);
        barred.keep();
        Edge.is("what is BARRED is not borne", barred.check(1), 0);
        Edge.says(39, "are THE YEARS TOLD of n (1 .. 30; fewer, if THE YEAR would be above 9999), two by two: 0; else 1 and how many"
            + " stand right ahead of the first that is not (or is missing, or one too many). BAD; NO: there is no IMAGE.");
        Edge.is("n 1", alone(true, rows(1)).make().check(1), 0);
        Edge.is("n 30", alone(true, rows(30)).make().check(30), 0);
        Edge.is("n 29, one too many", alone(true, rows(30)).make().check(29), 59);
        Edge.is("n 1, one too many", alone(true, rows(30)).make().check(1), 3);
        Edge.is("n 30, a year is missing", alone(true, rows(29)).make().check(30), 59);
        for (int wrong = 0; wrong < 60; wrong++) {
            int[] told = rows(30);
            told[wrong]++;
            Edge.is("wrong at " + wrong, alone(true, told).make().check(30), 1 + wrong);
            told[wrong] -= 2;
            Edge.is("wrong below at " + wrong, alone(true, told).make().check(30), 1 + wrong);
        }
        int[] two = rows(30);
        two[5] = 0;
        two[50] = 0;
        Edge.is("the first of two", alone(true, two).make().check(30), 6);
        Edge.refused("BAD ahead of NO", alone(false), y -> y.check(0), BAD);
        Edge.refused("no image, none wait", Lands.EMPTY, y -> y.check(30), Due.NO);
    }

    /** Two, kept, with as many years told as there are births; now they are fourteen, in another year. */
    private static LionShield growing(int births) {
        LionShield x = YearsEdges.many(2).make();
        x.keep();
        for (int year = 1; year <= 30; year++) {
            LionShield y = YearsEdges.many(2).make();
            y.years(year);
            x.tell(Math.min(2 + births, 2 + year));
            x.tell(Lands.together(y, 0));
        }
        x.years(100);
        return x;
    }

    private static void checkNearTheLastYear() {
        int[][] yearAndSpan = {{9969, 30}, {9970, 29}, {9997, 2}, {9998, 1}, {9999, 0}};
        for (int[] pair : yearAndSpan) {
            int right = 2 * pair[1];
            for (int told = Math.max(0, right - 1); told <= Math.min(60, right + 1); told++) {
                int due = told == right ? 0 : 1 + Math.min(told, right);
                Edge.is("in " + pair[0] + ", " + told + " told", aloneIn(pair[0], told).check(30), due);
            }
        }
        LionShield x = new LionShield();
        x.person(0, -1, -1, 0, 0);
        x.keep();
        Lands.passAllYears(x);
        for (int v : rows(30)) {
            x.tell(v);
        }
        Edge.is("THE YEAR of THE IMAGE counts, not the one now", x.check(30), 0);
    }

    /** One alone, kept in this year, with so many numbers told that are right as far as there are years. */
    private static LionShield aloneIn(int year, int told) {
        LionShield x = new LionShield();
        x.person(0, -1, -1, 0, 0);
        for (int left = year; left > 0; left -= 100) {
            x.years(Math.min(100, left));
        }
        x.keep();
        for (int i = 0; i < told; i++) {
            x.tell(rows(31)[i]);
        }
        return x;
    }

    private static void keep() {
        Edge.says(40, "AN IMAGE is kept: how many PEOPLE.");
        Edge.is("nobody", new LionShield().keep(), 0);
        Edge.is("fourteen", Lands.FULL.make().keep(), 14);
        Edge.refused("the same again", Lands.TWO.then("kept", LionShield::keep), LionShield::keep, 2);
        LionShield x = Lands.TWO.make();
        x.keep();
        x.deal(1);
        Edge.is("anew", x.keep(), 3);
        x.deal(1);
        Edge.is("the last one kept", x.back(), 3);
    }

    private static void back() {
        Edge.says(41, "All is as THE IMAGE: how many PEOPLE. NO: there is none.");
        Edge.refused("none", Lands.EMPTY, LionShield::back, Due.NO);
        Edge.refused("none of two", Lands.TWO, LionShield::back, Due.NO);
        Edge.refused("nothing is otherwise", Lands.TWO.then("kept", LionShield::keep), LionShield::back, 2);
        LionShield x = new LionShield();
        x.keep();
        x.deal(14);
        Edge.is("nobody", x.back(), 0);
        Edge.is("room again", x.deal(14), 14);
        Edge.is("and again nobody", x.back(), 0);
    }

    private static void count() {
        Edge.says(42, "0 how many PEOPLE, 1 THE YEAR, 2 FERTILE, 3 how many have no FATHER, 4 TEXTS, 5 numbers that wait, 6 bytes of"
            + " THE TAPE, 7 z. BAD.");
        Edge.beyond("what", Lands.EMPTY, LionShield::count, 0, 7, BAD);
        Edge.beyond("what", Lands.FULL, LionShield::count, 0, 7, BAD);
        int[] full = {14, 9999, 30, 14, 14, 60, 96};
        int[] some = {5, 3, 45, 2, 3, 2, 10};
        for (int what = 0; what < 7; what++) {
            int w = what;
            Edge.refused("what " + w, Lands.FULL, x -> x.count(w), full[w]);
            Edge.refused("what " + w, Lands.SOME, x -> x.count(w), some[w]);
        }
        LionShield x = Lands.TWO.make();
        x.person(0, -1, 1, 0, 0);
        Edge.is("a MOTHER is no FATHER", x.count(3), 3);
        x.person(0, 0, -1, 0, 0);
        Edge.is("a FATHER alone is one", x.count(3), 3);
    }
}
