/** Edges of part 5 of the terms, and of promises 29 to 37. */
final class SheetEdges {
    private static final int BAD = Due.BAD, MIN = Integer.MIN_VALUE, MAX = Integer.MAX_VALUE;

    private SheetEdges() {
    }

    static void all() {
        sheetsAtFirst();
        slotsAtFirst();
        sheet();
        mark();
        markShorts();
        markFloats();
        pour();
        pourHeldWithin();
        reads();
        copy();
        copyRefused();
        copyWithin();
        lay();
        forGood();
        ask();
        item();
        rest();
    }

    /** A place of a sheet, as a slot shows it. */
    private static int at(LionShield x, int sheet, int place) {
        x.lay(4, 2, sheet);
        return x.item(4, place);
    }

    private static void sheetsAtFirst() {
        Edge.says(0, "SHEETS 0 .. 3 are rows of shorts (sort 0) or floats (1; whole numbers), with 0 to 24 places, or MISSING (at"
            + " first). A place of floats may be NO NUMBER.");
        for (int sheet = 0; sheet < 4; sheet++) {
            int s = sheet;
            Edge.refused("MISSING at first", Lands.EMPTY, x -> x.reads(s), Due.NOTHING);
            LionShield x = new LionShield();
            x.sheet(s, 0, 0);
            Edge.is("no places are not MISSING", x.reads(s), Due.NONE);
            for (int other = 0; other < 4; other++) {
                Edge.is("the others are MISSING still", x.reads(other), other == s ? Due.NONE : Due.NOTHING);
            }
            x.sheet(s, 1, 24);
            Edge.is("the last of 24", x.mark(s, 23, Due.NONE), 1);
            Edge.is("none behind it", x.mark(s, 24, 1), Due.INDEX);
        }
        Edge.beyond("sheet", Lands.SOME, LionShield::reads, 0, 3, BAD);
    }

    private static void slotsAtFirst() {
        Edge.says(0, "SLOTS 0 .. 4 each hold nothing (at first), one of PEOPLE (as it is then, for good), a SHEET (a row of its own,"
            + " as it was then), or a number.");
        for (int slot = 0; slot < 5; slot++) {
            int s = slot;
            Edge.refused("nothing at first", Lands.EMPTY, x -> x.rest(s, 1), Due.NOTHING);
            LionShield x = new LionShield();
            x.lay(s, 3, 0);
            for (int other = 0; other < 5; other++) {
                Edge.is("a number, and 0 is one", x.rest(other, 1), other == s ? 0 : Due.NOTHING);
            }
        }
        Edge.beyond("slot", Lands.SOME, (x, v) -> x.rest(v, 1), 0, 4, BAD);
        Edge.says(0, "FINDINGS: NOTHING: a SHEET is MISSING, a SLOT holds nothing; INDEX: there is no such place; SIZE: a number of"
            + " places is below 0; KIND: it is none (of a KIND, a number, or another thing).");
        Edge.refused("a SHEET is MISSING", Lands.SOME, x -> x.pour(3), Due.NOTHING);
        Edge.refused("a SLOT holds nothing", Lands.SOME, x -> x.item(0, 0), Due.NOTHING);
        Edge.refused("no such place", Lands.SOME, x -> x.mark(0, 5, 0), Due.INDEX);
        Edge.refused("a number of places below 0", Lands.SOME, x -> x.sheet(0, 0, -1), Due.SIZE);
        Edge.refused("none of a KIND", Lands.SOME, x -> x.as(0, 5), Due.KIND);
        Edge.refused("no number", Lands.SOME, x -> x.rest(1, 1), Due.KIND);
        Edge.refused("another thing", Lands.SOME, x -> x.item(3, 0), Due.KIND);
    }

    private static void sheet() {
        Edge.says(29, "A SHEET becomes a row of n places of a sort, all 0 (sort -1: MISSING, n any): n (0). BAD: sheet, sort, n above"
            + " 24; SIZE.");
        for (int sort = 0; sort < 2; sort++) {
            int s = sort;
            for (int n : new int[] {0, 1, 23, 24}) {
                Edge.taken("n " + n + " of sort " + s + ", sheet", Lands.SOME, (x, v) -> x.sheet(v, s, n), n, 0, 3);
            }
            Edge.refused("n -1", Lands.SOME, x -> x.sheet(0, s, -1), Due.SIZE);
            Edge.refused("the least n", Lands.SOME, x -> x.sheet(0, s, MIN), Due.SIZE);
            Edge.refused("n 25", Lands.SOME, x -> x.sheet(0, s, 25), BAD);
            Edge.refused("the most n", Lands.SOME, x -> x.sheet(0, s, MAX), BAD);
        }
        Edge.beyond("sheet", Lands.SOME, (x, v) -> x.sheet(v, 0, 3), 0, 3, BAD);
        Edge.beyond("sheet, to be MISSING", Lands.SOME, (x, v) -> x.sheet(v, -1, 3), 0, 3, BAD);
        Edge.beyond("sheet ahead of SIZE", Lands.SOME, (x, v) -> x.sheet(v, 0, -1), 0, 3, BAD);
        Edge.beyond("sort", Lands.SOME, (x, v) -> x.sheet(0, v, 3), -1, 1, BAD);
        Edge.beyond("sort ahead of SIZE", Lands.SOME, (x, v) -> x.sheet(0, v, -1), -1, 1, BAD);
        for (int n : new int[] {MIN, -1, 0, 24, 25, MAX}) {
            LionShield x = Lands.SOME.make();
            Edge.is("MISSING, n " + n, x.sheet(0, -1, n), 0);
            Edge.is("it is MISSING", x.reads(0), Due.NOTHING);
            Edge.is("the next is not", x.mark(1, 0, 0), 1);
            Edge.refused("MISSING already, n " + n, Lands.SOME, y -> y.sheet(3, -1, n), 0);
        }
        LionShield x = Lands.FULL.make();
        x.sheet(3, 0, 1);
        x.sheet(3, 0, 24);
        Edge.is("all 0 again", at(x, 3, 23), 0);
        x.mark(3, 0, 9);
        x.sheet(3, 1, 24);
        Edge.is("of the other sort, all 0", at(x, 3, 0), 0);
    }

    private static void mark() {
        Edge.says(30, "BAD: sheet; NOTHING; INDEX; KIND: NONE in a row of shorts; BAD: v of floats.");
        Edge.beyond("sheet", Lands.SOME, (x, v) -> x.mark(v, 0, 0), 0, 3, BAD);
        Edge.refused("MISSING", Lands.SOME, x -> x.mark(3, 0, 0), Due.NOTHING);
        Edge.beyond("place of 5 shorts", Lands.SOME, (x, v) -> x.mark(0, v, 1), 0, 4, Due.INDEX);
        Edge.beyond("place of 6 floats", Lands.SOME, (x, v) -> x.mark(1, v, 1), 0, 5, Due.INDEX);
        Edge.beyond("place of 24", Lands.SOME, (x, v) -> x.mark(2, v, 1), 0, 23, Due.INDEX);
        Edge.taken("place of 5", Lands.SOME, (x, v) -> x.mark(0, v, 1), 1, 0, 4);
        Edge.taken("place of 24", Lands.SOME, (x, v) -> x.mark(2, v, 1), 1, 0, 23);
        Edge.refused("NONE in shorts", Lands.SOME, x -> x.mark(0, 0, Due.NONE), Due.KIND);
        Edge.refused("BAD ahead of NOTHING", Lands.EMPTY, x -> x.mark(4, 0, 0), BAD);
        Edge.refused("NOTHING ahead of INDEX", Lands.SOME, x -> x.mark(3, -1, Due.NONE), Due.NOTHING);
        Edge.refused("INDEX ahead of KIND", Lands.SOME, x -> x.mark(0, 5, Due.NONE), Due.INDEX);
        Edge.refused("INDEX ahead of BAD", Lands.SOME, x -> x.mark(1, 6, 100000), Due.INDEX);
        Edge.refused("NOTHING ahead of BAD", Lands.SOME, x -> x.mark(3, 0, 100000), Due.NOTHING);
        State none = Lands.EMPTY.then("no places", x -> {
            x.sheet(0, 0, 0);
            x.sheet(1, 1, 0);
        });
        Edge.refused("no place of shorts", none, x -> x.mark(0, 0, 0), Due.INDEX);
        Edge.refused("no place of floats", none, x -> x.mark(1, 0, Due.NONE), Due.INDEX);
    }

    private static void markShorts() {
        Edge.says(30, "A place of a SHEET becomes v (of shorts its lowest 16 bits; of floats v, -99999 .. 99999; NONE: NO NUMBER): 1.");
        int[] marked = {0, 1, -1, 32767, 32768, -32768, -32769, 65535, 65536, 65537, MIN, MAX, Due.NONE + 1, Due.NONE - 1, BAD};
        int[] due = {0, 1, -1, 32767, -32768, -32768, 32767, -1, 0, 1, 0, -1, 13820, 13818, 13823};
        for (int i = 0; i < marked.length; i++) {
            LionShield x = Lands.SOME.make();
            Edge.is("a short " + marked[i], x.mark(2, 23, marked[i]), 1);
            Edge.is("is", at(x, 2, 23), due[i]);
            Edge.is("the next one is as it was", at(x, 2, 22), 1);
        }
    }

    private static void markFloats() {
        for (int v : new int[] {-99999, -32769, -1, 0, 1, 32768, 65536, 99999}) {
            LionShield x = Lands.SOME.make();
            Edge.is("a float " + v, x.mark(1, 5, v), 1);
            Edge.is("is", at(x, 1, 5), v);
            Edge.is("the next one is as it was", at(x, 1, 4), 6);
        }
        Edge.beyond("a float", Lands.SOME, (x, v) -> x.mark(1, 5, v), -99999, 99999, BAD);
        Edge.refused("1 above NONE", Lands.SOME, x -> x.mark(1, 5, Due.NONE + 1), BAD);
        Edge.refused("1 below NONE", Lands.SOME, x -> x.mark(1, 5, Due.NONE - 1), BAD);
        LionShield x = Lands.SOME.make();
        Edge.is("NO NUMBER", x.mark(1, 5, Due.NONE), 1);
        Edge.is("is none", at(x, 1, 5), Due.KIND);
        Edge.is("a number again", x.mark(1, 5, 0), 1);
        Edge.is("is one", at(x, 1, 5), 0);
    }

    private static void pour() {
        Edge.says(31, "FIRST of PEOPLE, by numbers, becomes the places of a SHEET from 0 on (each held within 0 .. 7; NO NUMBER, and"
            + " beyond the SHEET: it stays): how many are otherwise then. BAD; NOTHING.");
        Edge.beyond("sheet", Lands.SOME, LionShield::pour, 0, 3, BAD);
        Edge.refused("MISSING", Lands.SOME, x -> x.pour(3), Due.NOTHING);
        Edge.refused("no places", Lands.SOME.then("none", x -> x.sheet(3, 0, 0)), x -> x.pour(3), 0);
        Edge.refused("nobody", Lands.EMPTY.then("24", x -> x.sheet(3, 0, 24)), x -> x.pour(3), 0);
        State blank = Lands.SOME.then("24 without a number", x -> {
            x.sheet(3, 1, 24);
            for (int place = 0; place < 24; place++) {
                x.mark(3, place, Due.NONE);
            }
        });
        Edge.refused("NO NUMBER at all", blank, x -> x.pour(3), 0);
        LionShield x = YearsEdges.many(14).make();
        x.sheet(0, 0, 13);
        Edge.is("all but the last; two are 0 already", x.pour(0), 11);
        Edge.is("the last but one", x.told(12, 4), 0);
        Edge.is("the last stays", x.told(13, 4), 5);
        x.sheet(0, 0, 14);
        Edge.is("the last, too", x.pour(0), 1);
        Edge.is("the last", x.told(13, 4), 0);
        Edge.is("again", x.pour(0), 0);
        Edge.is("nobody came", x.count(0), 14);
    }

    private static void pourHeldWithin() {
        int[] poured = {-99999, -1, 0, 1, 6, 7, 8, 99999};
        int[] due = {0, 0, 0, 1, 6, 7, 7, 7};
        for (int i = 0; i < poured.length; i++) {
            LionShield x = Lands.TWO.make();
            x.sheet(0, 1, 1);
            x.mark(0, 0, poured[i]);
            Edge.is("float " + poured[i], x.pour(0), due[i] == 1 ? 0 : 1);
            Edge.is("held", x.told(0, 4), due[i]);
            Edge.is("beyond the SHEET", x.told(1, 4), 2);
        }
        LionShield x = Lands.TWO.make();
        x.sheet(0, 0, 2);
        x.mark(0, 0, -32768);
        x.mark(0, 1, 32767);
        Edge.is("shorts", x.pour(0), 2);
        Edge.is("the least short", x.told(0, 4), 0);
        Edge.is("the most short", x.told(1, 4), 7);
    }

    private static void reads() {
        Edge.says(32, "The first place (of numbers alone) at which a SHEET is not FIRST of that one of PEOPLE (of places that are none"
            + " of them all numbers are not). BAD; NOTHING; NONE: there is none.");
        Edge.beyond("sheet", Lands.SOME, LionShield::reads, 0, 3, BAD);
        Edge.refused("MISSING", Lands.SOME, x -> x.reads(3), Due.NOTHING);
        Edge.refused("no places", Lands.SOME.then("none", x -> x.sheet(3, 1, 0)), x -> x.reads(3), Due.NONE);
        Edge.refused("nobody", Lands.EMPTY.then("24", x -> x.sheet(3, 0, 24)), x -> x.reads(3), 0);
        LionShield x = YearsEdges.many(14).make();
        x.sheet(0, 1, 24);
        for (int place = 0; place < 24; place++) {
            x.mark(0, place, place < 14 ? place % 8 : Due.NONE);
        }
        Edge.is("all are", x.reads(0), Due.NONE);
        x.mark(0, 23, 0);
        Edge.is("the last place", x.reads(0), 23);
        x.mark(0, 14, 0);
        Edge.is("the first that is none of PEOPLE", x.reads(0), 14);
        x.mark(0, 13, 6);
        Edge.is("the last of PEOPLE", x.reads(0), 13);
        x.mark(0, 7, 8);
        Edge.is("8 is not held within", x.reads(0), 7);
        x.mark(0, 0, -1);
        Edge.is("nor is -1", x.reads(0), 0);
        x.mark(0, 0, Due.NONE);
        Edge.is("of numbers alone", x.reads(0), 7);
        x.sheet(1, 0, 1);
        Edge.is("a SHEET of one", x.reads(1), Due.NONE);
    }

    private static void copy() {
        Edge.says(33, "So many places of a SHEET come to another one (or the same), as they were: many. BAD; NOTHING; KIND: they are"
            + " not of one sort; INDEX.");
        LionShield x = Lands.FULL.make();
        Edge.is("all 24", x.copy(0, 0, 2, 0, 24), 24);
        Edge.is("the last", at(x, 2, 23), 23);
        Edge.is("none of 24", x.copy(0, 24, 2, 24, 0), 0);
        Edge.is("the last one to the first", x.copy(0, 23, 2, 0, 1), 1);
        Edge.is("is there", at(x, 2, 0), 23);
        x.mark(1, 0, Due.NONE);
        Edge.is("NO NUMBER", x.copy(1, 0, 3, 23, 1), 1);
        Edge.is("comes, too", at(x, 3, 23), Due.KIND);
        State none = Lands.EMPTY.then("no places", y -> {
            y.sheet(0, 0, 0);
            y.sheet(1, 0, 0);
        });
        Edge.refused("none of none", none, y -> y.copy(0, 0, 1, 0, 0), 0);
        Edge.refused("one of none", none, y -> y.copy(0, 0, 1, 0, 1), Due.INDEX);
        Edge.refused("none of 5, by 0 places", Lands.SOME, y -> y.copy(0, 5, 0, 0, 0), 0);
        Edge.refused("none of 5, from too far", Lands.SOME, y -> y.copy(0, 6, 0, 0, 0), Due.INDEX);
        Edge.refused("none of 5, to too far", Lands.SOME, y -> y.copy(0, 0, 0, 6, 0), Due.INDEX);
    }

    private static void copyRefused() {
        State s = Lands.SOME;
        Edge.beyond("from", s, (x, v) -> x.copy(v, 0, 0, 0, 1), 0, 3, BAD);
        Edge.beyond("to", s, (x, v) -> x.copy(0, 0, v, 0, 1), 0, 3, BAD);
        Edge.refused("from is MISSING", s, x -> x.copy(3, 0, 0, 0, 1), Due.NOTHING);
        Edge.refused("to is MISSING", s, x -> x.copy(0, 0, 3, 0, 1), Due.NOTHING);
        Edge.refused("BAD ahead of NOTHING", s, x -> x.copy(3, 0, 4, 0, 1), BAD);
        Edge.refused("BAD ahead of NOTHING, to", s, x -> x.copy(4, 0, 3, 0, 1), BAD);
        Edge.refused("NOTHING ahead of INDEX", s, x -> x.copy(3, -1, 0, 0, 1), Due.NOTHING);
        Edge.refused("shorts to floats", s, x -> x.copy(0, 0, 1, 0, 1), Due.KIND);
        Edge.refused("floats to shorts", s, x -> x.copy(1, 0, 0, 0, 1), Due.KIND);
        Edge.refused("KIND ahead of INDEX", s, x -> x.copy(1, -1, 0, 0, 1), Due.KIND);
        Edge.refused("KIND, no places", s, x -> x.copy(1, 0, 0, 0, 0), Due.KIND);
        Edge.beyond("place", s, (x, v) -> x.copy(0, v, 2, 0, 2), 0, 3, Due.INDEX);
        Edge.beyond("at", s, (x, v) -> x.copy(2, 0, 0, v, 2), 0, 3, Due.INDEX);
        Edge.beyond("many, from 5", s, (x, v) -> x.copy(0, 0, 2, 0, v), 0, 5, Due.INDEX);
        Edge.beyond("many, to 5", s, (x, v) -> x.copy(2, 0, 0, 0, v), 0, 5, Due.INDEX);
        Edge.refused("far places, far many", s, x -> x.copy(0, MAX, 2, MAX, MAX), Due.INDEX);
        Edge.refused("what would wrap to 0", s, x -> x.copy(0, MIN, 2, MIN, MIN), Due.INDEX);
        Edge.refused("what would wrap to 5", s, x -> x.copy(0, 6, 2, 6, -1), Due.INDEX);
    }

    private static void copyWithin() {
        int[] up = {1, 1, 2, 3, 4};
        int[] down = {2, 3, 4, 5, 5};
        for (int i = 0; i < 5; i++) {
            Edge.is("upwards, place " + i, at(shifted(0, 1), 0, i), up[i]);
            Edge.is("downwards, place " + i, at(shifted(1, 0), 0, i), down[i]);
            Edge.is("where it is, place " + i, at(shifted(1, 1), 0, i), i + 1);
        }
    }

    private static LionShield shifted(int place, int at) {
        LionShield x = new LionShield();
        x.sheet(0, 0, 5);
        for (int i = 0; i < 5; i++) {
            x.mark(0, i, i + 1);
        }
        x.copy(0, place, 0, at, 4);
        return x;
    }

    private static void lay() {
        Edge.says(34, "A SLOT holds: thing 0 nothing, 1 the one with number k, 2 SHEET k, 3 the number k: what it held (0 .. 3). BAD:"
            + " slot, thing, k; NOTHING: that SHEET is MISSING.");
        State s = Lands.SOME;
        for (int thing = 0; thing < 4; thing++) {
            int t = thing;
            Edge.beyond("slot, thing " + t, s, (x, v) -> x.lay(v, t, 0), 0, 4, BAD);
            Edge.taken("k 0 as thing " + t + " in slot", s, (x, v) -> x.lay(v, t, 0), 0, 0);
            Edge.taken("k 0 as thing " + t + " in slot", s, (x, v) -> x.lay(v, t, 0), 2, 4);
        }
        Edge.beyond("thing", s, (x, v) -> x.lay(1, v, 0), 0, 3, BAD);
        Edge.taken("one", s, (x, v) -> x.lay(1, 1, v), 1, 0, 4);
        Edge.beyond("one", s, (x, v) -> x.lay(1, 1, v), 0, 4, BAD);
        Edge.taken("SHEET", s, (x, v) -> x.lay(3, 2, v), 3, 0, 1, 2);
        Edge.beyond("SHEET", s, (x, v) -> x.lay(1, 2, v), 0, 3, BAD);
        Edge.refused("a SHEET that is MISSING", s, x -> x.lay(1, 2, 3), Due.NOTHING);
        Edge.refused("BAD ahead of NOTHING", s, x -> x.lay(5, 2, 3), BAD);
        Edge.taken("a number", s, (x, v) -> x.lay(2, 3, v), 2, MIN, -1, 0, MAX);
        Edge.taken("nothing, k any", s, (x, v) -> x.lay(2, 0, v), 2, MIN, -1, 5, MAX);
        Edge.refused("nothing where nothing is", s, x -> x.lay(0, 0, 9), 0);
        Edge.refused("one, with nobody", Lands.EMPTY, x -> x.lay(0, 1, 0), BAD);
        Edge.refused("the fifteenth", Lands.FULL, x -> x.lay(0, 1, 14), BAD);
        Edge.taken("the last of 14", Lands.FULL, (x, v) -> x.lay(0, 1, v), 1, 13);
        LionShield x = s.make();
        int[] held = {0, 1, 2, 3};
        for (int thing : new int[] {1, 2, 3, 0}) {
            Edge.is("held ahead of " + thing, x.lay(0, thing, 0), thing == 0 ? 3 : held[thing - 1]);
        }
    }

    /** What a SLOT holds stays, whatever becomes of where it came from. */
    private static void forGood() {
        LionShield x = Lands.TWO.make();
        x.keep();
        x.person(3, -1, -1, 0, 7);
        x.sheet(0, 1, 24);
        x.mark(0, 23, -99999);
        x.lay(0, 1, 2);
        x.lay(1, 2, 0);
        x.lay(2, 2, 0);
        x.turns(2, 0);
        x.set(2, 4, 0);
        x.mark(0, 23, 1);
        Edge.is("one as it was", x.ask(0, 3), 152);
        Edge.is("a SHEET as it was", x.item(1, 23), -99999);
        x.back();
        x.sheet(0, -1, 0);
        Edge.is("one who is gone", x.ask(0, 3), 152);
        Edge.is("a SHEET that is MISSING", x.item(1, 23), -99999);
        x.sheet(0, 0, 1);
        x.lay(1, 2, 0);
        Edge.is("the row in another SLOT", x.item(2, 23), -99999);
        Edge.is("a shorter row in its place", x.item(1, 1), Due.INDEX);
        LionShield y = Lands.SOME.make();
        y.lay(2, 3, 5);
        y.lay(2, 0, 0);
        Edge.is("nothing is nothing", y.rest(2, 1), Due.NOTHING);
    }

    private static void ask() {
        Edge.says(35, "WORTH of the one in a SLOT, taken for one of a KIND (0 .. 5). BAD; NOTHING; KIND: it is none of PEOPLE, or not of"
            + " that KIND, nor of one under it.");
        State s = Lands.SOME;
        Edge.beyond("slot", s, (x, v) -> x.ask(v, 0), 0, 4, BAD);
        Edge.beyond("kind", s, (x, v) -> x.ask(1, v), 0, 5, BAD);
        Edge.beyond("kind, nothing held", s, (x, v) -> x.ask(0, v), 0, 5, BAD);
        Edge.beyond("kind, a SHEET held", s, (x, v) -> x.ask(2, v), 0, 5, BAD);
        Edge.refused("nothing", s, x -> x.ask(0, 0), Due.NOTHING);
        Edge.refused("a SHEET", s, x -> x.ask(2, 0), Due.KIND);
        Edge.refused("a number", s, x -> x.ask(3, 5), Due.KIND);
        int[] due = {72, 72, Due.KIND, 72, Due.KIND, Due.KIND};
        for (int kind = 0; kind < 6; kind++) {
            int k = kind;
            Edge.refused("LABELLED of FIRST 3 as " + k, s, x -> x.ask(1, k), due[k]);
        }
        State last = Lands.EMPTY.then("a bastard", x -> {
            x.person(5, -1, -1, 0, 7);
            x.lay(4, 1, 0);
        });
        Edge.refused("the last slot, the last KIND", last, x -> x.ask(4, 5), 5);
        Edge.refused("not the one ahead", last, x -> x.ask(4, 4), Due.KIND);
    }

    private static void item() {
        Edge.says(36, "A place of the SHEET in a SLOT. BAD: slot; NOTHING; KIND: it is no SHEET; INDEX; KIND: NO NUMBER.");
        State s = Lands.SOME;
        Edge.beyond("slot", s, (x, v) -> x.item(v, 0), 0, 4, BAD);
        Edge.refused("nothing", s, x -> x.item(0, 0), Due.NOTHING);
        Edge.refused("nothing ahead of INDEX", s, x -> x.item(0, -1), Due.NOTHING);
        Edge.refused("one of PEOPLE", s, x -> x.item(1, 0), Due.KIND);
        Edge.refused("a number", s, x -> x.item(3, 0), Due.KIND);
        Edge.refused("KIND ahead of INDEX", s, x -> x.item(3, -1), Due.KIND);
        Edge.beyond("place of 6", s, (x, v) -> x.item(2, v), 0, 5, Due.INDEX);
        Edge.beyond("place of 5", s, (x, v) -> x.item(4, v), 0, 4, Due.INDEX);
        Edge.refused("the first of 6", s, x -> x.item(2, 0), 10);
        Edge.refused("the last of 6", s, x -> x.item(2, 5), 0);
        Edge.refused("NO NUMBER", s, x -> x.item(2, 2), Due.KIND);
        Edge.refused("the last of 5", s, x -> x.item(4, 4), 8);
        State none = Lands.EMPTY.then("no places", x -> {
            x.sheet(0, 1, 0);
            x.lay(4, 2, 0);
        });
        Edge.refused("no place", none, x -> x.item(4, 0), Due.INDEX);
        State many = Lands.FULL.then("a sheet of 24", x -> x.lay(4, 2, 3));
        Edge.refused("the last of 24", many, x -> x.item(4, 23), 26);
        Edge.beyond("place of 24", many, (x, v) -> x.item(4, v), 0, 23, Due.INDEX);
    }

    private static void rest() {
        Edge.says(37, "The rest of the number in a SLOT by n. BAD: slot; NOTHING; KIND: it is no number; NO: n is 0.");
        State s = Lands.SOME;
        Edge.beyond("slot", s, (x, v) -> x.rest(v, 0), 0, 4, BAD);
        Edge.refused("nothing ahead of NO", s, x -> x.rest(0, 0), Due.NOTHING);
        Edge.refused("one of PEOPLE", s, x -> x.rest(1, 5), Due.KIND);
        Edge.refused("a SHEET, ahead of NO", s, x -> x.rest(2, 0), Due.KIND);
        Edge.refused("by 0", s, x -> x.rest(3, 0), Due.NO);
        Edge.refused("777 by 10", s, x -> x.rest(3, 10), 7);
        int[][] rests = {{7, 1, 0}, {7, -1, 0}, {7, 2, 1}, {7, -2, 1}, {-7, 2, -1}, {-7, -2, -1}, {0, 5, 0}, {7, 7, 0}, {7, 8, 7},
            {MIN, -1, 0}, {MIN, 1, 0}, {MIN, MIN, 0}, {MIN, MAX, -1}, {MAX, MIN, MAX}, {MAX, MAX, 0}, {MIN, 10, -8}, {-1, MIN, -1}};
        for (int[] row : rests) {
            LionShield x = new LionShield();
            x.lay(4, 3, row[0]);
            Edge.is(row[0] + " by " + row[1], x.rest(4, row[1]), row[2]);
            Edge.is(row[0] + " by 0", x.rest(4, 0), Due.NO);
        }
    }
}
