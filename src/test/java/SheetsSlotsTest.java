/** Promises 29 to 37. */
public final class SheetsSlotsTest {
    public static void main(String[] args) {
        sheet();
        mark();
        pour();
        reads();
        copy();
        lay();
        ask();
        item();
        rest();
        Due.end();
    }

    /** A place as a slot shows it. */
    private static int at(LionShield x, int sheet, int place) {
        x.lay(4, 2, sheet);
        return x.item(4, place);
    }

    private static void sheet() {
        LionShield x = new LionShield();
        Due.is("29: 24 shorts", x.sheet(0, 0, 24), 24);
        Due.is("29: no place", x.sheet(1, 1, 0), 0);
        Due.is("29: a row without places is there", x.reads(1), Due.NONE);
        x.mark(0, 0, 4);
        x.mark(0, 23, 5);
        Due.is("29: anew", x.sheet(0, 0, 24), 24);
        Due.is("29: all 0", at(x, 0, 23), 0);
        Due.is("29: the first too", at(x, 0, 0), 0);
        Due.is("29: 25", x.sheet(0, 0, 25), Due.BAD);
        Due.is("29: below 0", x.sheet(0, 0, -1), Due.SIZE);
        Due.is("29: sort 2", x.sheet(0, 2, -1), Due.BAD);
        Due.is("29: sort -2", x.sheet(0, -2, 1), Due.BAD);
        Due.is("29: sheet 4", x.sheet(4, 0, -1), Due.BAD);
        Due.is("29: sheet -1", x.sheet(-1, 0, 1), Due.BAD);
        Due.is("29: refused: as it was", at(x, 0, 23), 0);
        Due.is("29: missing, n any", x.sheet(0, -1, 99), 0);
        Due.is("29: is missing", x.reads(0), Due.NOTHING);
        Due.is("29: missing, n below 0", x.sheet(0, -1, -9), 0);
        Due.is("29: missing of no sheet", x.sheet(4, -1, 0), Due.BAD);
    }

    private static void mark() {
        LionShield x = new LionShield();
        Due.is("30: missing", x.mark(0, 0, 0), Due.NOTHING);
        x.sheet(0, 0, 2);
        x.sheet(1, 1, 2);
        Due.is("30: a short", x.mark(0, 1, -32768), 1);
        Due.is("30: is", at(x, 0, 1), -32768);
        Due.is("30: the lowest 16 bits", x.mark(0, 1, 0x12348001), 1);
        Due.is("30: are", at(x, 0, 1), -32767);
        x.mark(0, 1, 65537);
        Due.is("30: 65537", at(x, 0, 1), 1);
        Due.is("30: a float", x.mark(1, 0, 99999), 1);
        Due.is("30: is there", at(x, 1, 0), 99999);
        Due.is("30: the least float", x.mark(1, 0, -99999), 1);
        Due.is("30: too much", x.mark(1, 0, 100000), Due.BAD);
        Due.is("30: too little", x.mark(1, 0, -100000), Due.BAD);
        Due.is("30: as it was", at(x, 1, 0), -99999);
        Due.is("30: no number", x.mark(1, 0, Due.NONE), 1);
        Due.is("30: is none", at(x, 1, 0), Due.KIND);
        Due.is("30: no number in shorts", x.mark(0, 0, Due.NONE), Due.KIND);
        Due.is("30: place 2", x.mark(0, 2, Due.NONE), Due.INDEX);
        Due.is("30: place -1", x.mark(1, -1, 100000), Due.INDEX);
        Due.is("30: sheet 4", x.mark(4, 0, 0), Due.BAD);
        Due.is("30: sheet -1", x.mark(-1, 0, 0), Due.BAD);
    }

    private static void pour() {
        LionShield x = new LionShield();
        for (int i = 0; i < 5; i++) {
            x.person(0, -1, -1, 0, 3);
        }
        Due.is("31: missing", x.pour(0), Due.NOTHING);
        x.sheet(0, 1, 4);
        x.mark(0, 0, -500);
        x.mark(0, 1, 500);
        x.mark(0, 2, Due.NONE);
        x.mark(0, 3, 3);
        Due.is("31: two are otherwise", x.pour(0), 2);
        int[] due = {0, 7, 3, 3, 3};
        for (int one = 0; one < 5; one++) {
            Due.is("31: FIRST of " + one, x.told(one, 4), due[one]);
        }
        Due.is("31: again none is otherwise", x.pour(0), 0);
        x.sheet(1, 0, 24);
        Due.is("31: a longer sheet", x.pour(1), 4);
        Due.is("31: sheet 4", x.pour(4), Due.BAD);
        Due.is("31: sheet -1", x.pour(-1), Due.BAD);
        Due.is("31: no more people", x.count(0), 5);
    }

    private static void reads() {
        LionShield x = new LionShield();
        x.sheet(0, 1, 4);
        Due.is("32: nobody is there", x.reads(0), 0);
        x.person(0, -1, -1, 0, 0);
        x.person(0, -1, -1, 0, 5);
        Due.is("32: 0 and 5", x.reads(0), 1);
        x.mark(0, 1, 5);
        Due.is("32: place 2 is none of them", x.reads(0), 2);
        x.mark(0, 2, Due.NONE);
        Due.is("32: of numbers alone", x.reads(0), 3);
        x.mark(0, 3, Due.NONE);
        Due.is("32: none", x.reads(0), Due.NONE);
        x.mark(0, 0, 8);
        Due.is("32: not held within", x.reads(0), 0);
        x.sheet(1, 0, 1);
        Due.is("32: a shorter sheet", x.reads(1), Due.NONE);
        x.sheet(1, 1, 24);
        for (int place = 0; place < 24; place++) {
            x.mark(1, place, Due.NONE);
        }
        Due.is("32: 24 places without a number", x.reads(1), Due.NONE);
        Due.is("32: missing", x.reads(2), Due.NOTHING);
        Due.is("32: sheet 4", x.reads(4), Due.BAD);
        Due.is("32: sheet -1", x.reads(-1), Due.BAD);
    }

    private static void copy() {
        LionShield x = new LionShield();
        x.sheet(0, 0, 5);
        for (int i = 0; i < 5; i++) {
            x.mark(0, i, i + 1);
        }
        x.sheet(1, 0, 3);
        x.sheet(2, 1, 5);
        Due.is("33: to another", x.copy(0, 2, 1, 0, 3), 3);
        for (int i = 0; i < 3; i++) {
            Due.is("33: place " + i, at(x, 1, i), i + 3);
        }
        Due.is("33: upwards in itself", x.copy(0, 0, 0, 1, 4), 4);
        int[] up = {1, 1, 2, 3, 4};
        for (int i = 0; i < 5; i++) {
            Due.is("33: up " + i, at(x, 0, i), up[i]);
        }
        Due.is("33: downwards in itself", x.copy(0, 2, 0, 0, 3), 3);
        int[] down = {2, 3, 4, 3, 4};
        for (int i = 0; i < 5; i++) {
            Due.is("33: down " + i, at(x, 0, i), down[i]);
        }
        Due.is("33: no places, at the end", x.copy(0, 5, 1, 3, 0), 0);
        Due.is("33: one too many from", x.copy(0, 3, 1, 0, 3), Due.INDEX);
        Due.is("33: one too many to", x.copy(0, 0, 1, 1, 3), Due.INDEX);
        Due.is("33: place -1", x.copy(0, -1, 1, 0, 1), Due.INDEX);
        Due.is("33: at -1", x.copy(0, 0, 1, -1, 1), Due.INDEX);
        Due.is("33: many below 0", x.copy(0, 0, 1, 0, -1), Due.INDEX);
        Due.is("33: far numbers", x.copy(0, Integer.MAX_VALUE, 1, Integer.MAX_VALUE, Integer.MAX_VALUE), Due.INDEX);
        Due.is("33: far below", x.copy(0, 1, 1, 1, Integer.MIN_VALUE), Due.INDEX);
        Due.is("33: not of one sort", x.copy(0, -1, 2, 0, 1), Due.KIND);
        Due.is("33: missing from", x.copy(3, 0, 2, 0, 1), Due.NOTHING);
        Due.is("33: missing to", x.copy(2, 0, 3, 0, 1), Due.NOTHING);
        Due.is("33: from 4", x.copy(4, 0, 3, 0, 1), Due.BAD);
        Due.is("33: to -1", x.copy(3, 0, -1, 0, 1), Due.BAD);
        Due.is("33: refused: as it was", at(x, 1, 0), 3);
        x.mark(2, 0, Due.NONE);
        x.copy(2, 0, 2, 4, 1);
        Due.is("33: no number comes too", at(x, 2, 4), Due.KIND);
    }

    private static void lay() {
        LionShield x = new LionShield();
        x.person(0, -1, -1, 0, 1);
        x.sheet(0, 0, 1);
        Due.is("34: nothing", x.lay(0, 0, 77), 0);
        Due.is("34: one", x.lay(0, 1, 0), 0);
        Due.is("34: a sheet", x.lay(0, 2, 0), 1);
        Due.is("34: a number", x.lay(0, 3, Integer.MIN_VALUE), 2);
        Due.is("34: slot 5", x.lay(5, 3, 0), Due.BAD);
        Due.is("34: slot -1", x.lay(-1, 3, 0), Due.BAD);
        Due.is("34: thing 4", x.lay(0, 4, 0), Due.BAD);
        Due.is("34: thing -1", x.lay(0, -1, 0), Due.BAD);
        Due.is("34: one not there", x.lay(0, 1, 1), Due.BAD);
        Due.is("34: one -1", x.lay(0, 1, -1), Due.BAD);
        Due.is("34: sheet 4", x.lay(0, 2, 4), Due.BAD);
        Due.is("34: sheet -1", x.lay(0, 2, -1), Due.BAD);
        Due.is("34: a missing sheet", x.lay(0, 2, 1), Due.NOTHING);
        Due.is("34: it held the number still", x.lay(0, 0, 0), 3);
        Due.is("34: and nothing then", x.lay(0, 0, 0), 0);
    }

    private static void ask() {
        LionShield x = new LionShield();
        x.person(3, -1, -1, 0, 4);
        x.sheet(0, 0, 1);
        Due.is("35: nothing", x.ask(0, 0), Due.NOTHING);
        x.lay(0, 1, 0);
        x.set(0, 4, 0);
        x.turns(0, 5);
        Due.is("35: as it was then", x.ask(0, 3), 92);
        Due.is("35: as one above", x.ask(0, 1), 92);
        Due.is("35: as an heir", x.ask(0, 0), 92);
        Due.is("35: not of that kind", x.ask(0, 2), Due.KIND);
        Due.is("35: nor of the one it is now", x.ask(0, 5), Due.KIND);
        x.lay(1, 2, 0);
        x.lay(2, 3, 9);
        Due.is("35: a sheet", x.ask(1, 0), Due.KIND);
        Due.is("35: a number", x.ask(2, 0), Due.KIND);
        Due.is("35: kind 6", x.ask(3, 6), Due.BAD);
        Due.is("35: kind -1", x.ask(0, -1), Due.BAD);
        Due.is("35: slot 5", x.ask(5, 0), Due.BAD);
        Due.is("35: slot -1", x.ask(-1, 0), Due.BAD);
        x.keep();
        x.lay(0, 1, 0);
        x.back();
        Due.is("35: slots are none of the image", x.ask(0, 5), 5);
    }

    private static void item() {
        LionShield x = new LionShield();
        x.person(3, -1, -1, 0, 4);
        x.sheet(0, 1, 2);
        x.mark(0, 1, -7);
        Due.is("36: nothing", x.item(0, 0), Due.NOTHING);
        x.lay(0, 2, 0);
        x.mark(0, 0, 5);
        x.sheet(0, -1, 0);
        Due.is("36: as it was then", x.item(0, 0), 0);
        Due.is("36: its place", x.item(0, 1), -7);
        Due.is("36: place 2", x.item(0, 2), Due.INDEX);
        Due.is("36: place -1", x.item(0, -1), Due.INDEX);
        x.sheet(0, 1, 2);
        x.mark(0, 0, Due.NONE);
        x.lay(1, 2, 0);
        Due.is("36: no number", x.item(1, 0), Due.KIND);
        x.lay(2, 1, 0);
        x.lay(3, 3, 8);
        Due.is("36: one of the people", x.item(2, 9), Due.KIND);
        Due.is("36: a number", x.item(3, 0), Due.KIND);
        Due.is("36: slot 5", x.item(5, 0), Due.BAD);
        Due.is("36: slot -1", x.item(-1, 0), Due.BAD);
    }

    private static void rest() {
        LionShield x = new LionShield();
        Due.is("37: nothing", x.rest(0, 0), Due.NOTHING);
        x.person(0, -1, -1, 0, 0);
        x.lay(0, 1, 0);
        Due.is("37: no number", x.rest(0, 0), Due.KIND);
        x.lay(0, 3, 17);
        Due.is("37: 17 by 5", x.rest(0, 5), 2);
        Due.is("37: 17 by -5", x.rest(0, -5), 2);
        x.lay(0, 3, -17);
        Due.is("37: -17 by 5", x.rest(0, 5), -2);
        Due.is("37: by 0", x.rest(0, 0), Due.NO);
        x.lay(0, 3, Integer.MIN_VALUE);
        Due.is("37: the least by -1", x.rest(0, -1), 0);
        Due.is("37: slot 5", x.rest(5, 0), Due.BAD);
        Due.is("37: slot -1", x.rest(-1, 1), Due.BAD);
    }
}
