/** Edges of part 1 of the terms, and of promises 1 to 10. */
final class PeopleEdges {
    private static final int BAD = Due.BAD;

    private PeopleEdges() {
    }

    static void all() {
        calls();
        numbersAreWhole();
        firstOfAll();
        charges();
        fourteenPeople();
        parents();
        kinds();
        heiresses();
        heldWithin();
        joinWithoutAText();
        lessTwo();
        half();
        otherKinds();
        barred();
        worth();
        person();
        told();
        bears();
        asKind();
        turns();
        set();
        fertile();
        deal();
        seed();
    }

    private static void calls() {
        Edge.says(0, "An object is used for at most 512 calls after it has been made");
        LionShield x = new LionShield();
        x.keep();
        for (int i = 0; i < 127; i++) {
            x.feed(0x66656520, 0x31322B33, 0x34352020);
            x.text();
            x.text();
            x.back();
        }
        x.feed(0x66656520, 0x31322B33, 0x34352020);
        Edge.is("call 511", x.text(), 0);
        Edge.is("call 512", x.fee(), 357);
    }

    private static void numbersAreWhole() {
        Edge.says(0, "All numbers are whole; / cuts towards 0.");
        Edge.is("7 / 2", gives("7/2"), 3);
        Edge.is("-7 / 2", gives("(0-7)/2"), -3);
        Edge.is("7 / -2", gives("7/(0-2)"), -3);
        Edge.is("-7 / -2", gives("(0-7)/(0-2)"), 3);
        Edge.is("1 / 2", gives("1/2"), 0);
        Edge.is("-1 / 2", gives("(0-1)/2"), 0);
        Edge.says(0, "A call that is refused answers one of BAD, NO, FULL, or a FINDING, of several the one that stands first"
            + " with it, and changes nothing (but the tape and the numbers that wait, where told). NONE: there is none.");
        Edge.refused("BAD ahead of FULL", Lands.FULL, x -> x.person(6, -1, -1, 0, 0), BAD);
        Edge.refused("BAD ahead of SIZE", Lands.SOME, x -> x.sheet(4, 0, -1), BAD);
        Edge.refused("BAD ahead of NOTHING", Lands.EMPTY, x -> x.ask(0, 6), BAD);
        Edge.refused("BAD ahead of NONE", Lands.EMPTY, x -> x.match(0, 0, 0), BAD);
    }

    static int gives(String e) {
        LionShield x = new LionShield();
        Due.text(x, "fee " + e);
        return x.fee();
    }

    private static void firstOfAll() {
        Edge.says(1, "As told; nobody.");
        int[] counts = {0, 0, 30, 0, 0, 0, 0, 1};
        for (int what = 0; what < 8; what++) {
            Edge.is("count(" + what + ")", new LionShield().count(what), counts[what]);
        }
        Edge.is("a second object is new, too", secondBehindAFirst().count(0), 0);
        Edge.refused("nobody is told", Lands.EMPTY, x -> x.told(0, 0), BAD);
        Edge.refused("nobody bears", Lands.EMPTY, x -> x.bears(0, 0), BAD);
        Edge.refused("nobody is he", Lands.EMPTY, x -> x.land(1), 0);
        Edge.refused("nobody is she", Lands.EMPTY, x -> x.land(2), 0);
        Edge.refused("no image", Lands.EMPTY, LionShield::back, Due.NO);
    }

    private static LionShield secondBehindAFirst() {
        new LionShield().deal(14);
        return new LionShield();
    }

    private static void charges() {
        Edge.says(0, "CHARGES 0 .. 7.");
        for (int first = 0; first < 8; first++) {
            LionShield x = new LionShield();
            x.person(0, -1, -1, 0, first);
            for (int charge = 0; charge < 8; charge++) {
                Edge.is(charge + " of FIRST " + first, x.bears(0, charge), charge == first ? 64 : 0);
            }
        }
        Edge.beyond("charge", Lands.TWO, (x, v) -> x.bears(0, v), 0, 7, BAD);
    }

    private static void fourteenPeople() {
        Edge.says(0, "PEOPLE, 14 at most, numbered from 0 (the lesser number is older)");
        LionShield x = new LionShield();
        for (int n = 0; n < 14; n++) {
            Edge.is("the next", x.person(0, -1, -1, n % 2, 0), n);
            Edge.is("so many", x.count(0), n + 1);
        }
        Edge.is("the fifteenth", x.person(0, -1, -1, 0, 0), Due.FULL);
        Edge.is("still 14", x.count(0), 14);
    }

    private static void parents() {
        Edge.says(0, "FATHER, MOTHER (people with lesser numbers, or -1), SHE or he, FIRST (a CHARGE: that of one who has no"
            + " FATHER)");
        LionShield x = new LionShield();
        for (int n = 0; n < 13; n++) {
            x.person(0, -1, -1, n % 2, 0);
        }
        Edge.is("the next to last two", x.person(0, 12, 11, 0, 5), 13);
        Edge.is("its father", x.told(13, 1), 12);
        Edge.is("its mother", x.told(13, 2), 11);
        Edge.is("FIRST of one with a FATHER is told", x.told(13, 4), 5);
        Edge.is("FIRST of one with a FATHER is not borne", x.bears(13, 5), 0);
        Edge.refused("its own number as father", Lands.TWO, y -> y.person(0, 2, -1, 0, 0), BAD);
        Edge.refused("its own number as mother", Lands.TWO, y -> y.person(0, -1, 2, 1, 0), BAD);
        Edge.says(0, "BARRED (a set of CHARGES that are painted over; none at first)");
        Edge.is("one that came", Lands.TWO.make().told(1, 5), 0);
        LionShield dealt = new LionShield();
        dealt.deal(14);
        Edge.is("one that was drawn", dealt.told(13, 5), 0);
    }

    private static void kinds() {
        Edge.says(0, "and of KINDS: 0 HEIR; 1 YOUNGER, 2 ADOPTED, 5 BASTARD, under HEIR; 3 LABELLED, under YOUNGER;"
            + " 4 FOUNDLING, under ADOPTED (all are HEIRS)");
        String[] are = {"0", "10", "20", "310", "420", "50"};
        for (int kind = 0; kind < 6; kind++) {
            LionShield x = new LionShield();
            x.person(kind, -1, -1, 0, 7);
            for (int wanted = 0; wanted < 6; wanted++) {
                boolean is = are[kind].indexOf('0' + wanted) >= 0;
                Edge.is(kind + " as " + wanted, x.as(0, wanted), is ? 7 : Due.KIND);
            }
        }
    }

    private static void heiresses() {
        Edge.says(0, "HEIRESS: she has no brother (one who is he, with the same FATHER, not -1; one without FATHER has none).");
        LionShield x = Lands.TWO.make();
        x.person(0, -1, 1, 0, 0);
        Edge.is("another without FATHER is no brother", x.told(1, 6), 1);
        x.person(0, 0, -1, 1, 0);
        Edge.is("an only child", x.told(3, 6), 1);
        x.person(0, 0, 1, 1, 0);
        Edge.is("a sister", x.told(3, 6), 1);
        x.person(0, 2, 1, 0, 0);
        Edge.is("of the same MOTHER alone", x.told(4, 6), 1);
        x.person(0, 0, -1, 0, 0);
        Edge.is("of the same FATHER alone", x.told(4, 6), 0);
        Edge.is("without a mother, too", x.told(3, 6), 0);
        Edge.is("he is none", x.told(6, 6), 0);
        Edge.is("he without FATHER is none", x.told(0, 6), 0);
    }

    /** A child of two with this law, of this kind, whose FIRST is 7; it is number 2. */
    private static LionShield childBy(String join, int kind) {
        LionShield x = Lands.TWO.make();
        x.person(kind, 0, 1, 0, 7);
        Due.text(x, "join " + join);
        return x;
    }

    private static void heldWithin() {
        Edge.says(0, "HEIR without FATHER: 64 of FIRST, 0 of others.");
        Edge.is("the law is not asked", childBy("9", 0).bears(0, 1), 64);
        Edge.is("nor of others", childBy("9", 0).bears(0, 0), 0);
        Edge.says(0, "HEIR with FATHER: what join gives, held within 0 .. 64");
        String[] laws = {"0-1", "0", "1", "63", "64", "65", "256*256*(256*128)", "256*256*(256*128)-1", "0-9999*9999"};
        int[] due = {0, 0, 1, 63, 64, 64, 0, 64, 0};
        for (int i = 0; i < laws.length; i++) {
            Edge.is(laws[i], childBy(laws[i], 0).bears(2, 3), due[i]);
            LionShield x = childBy(laws[i], 0);
            Edge.is(laws[i] + " by match", x.match(0, 3, 1), due[i]);
        }
        LionShield x = childBy("f*2-m*2", 0);
        x.person(0, 2, -1, 0, 0);
        Edge.is("what is held goes on to the next: 128", x.bears(2, 1), 64);
        Edge.is("what is held goes on to the next: -128", x.bears(2, 2), 0);
    }

    private static void joinWithoutAText() {
        Edge.says(0, "m what the MOTHER bears of it, if there is one and she is an HEIRESS, else what the FATHER bears (without"
            + " a TEXT: (f and m) / 2).");
        LionShield x = Lands.TWO.make();
        x.person(0, 0, -1, 1, 0);
        Edge.is("no MOTHER", x.bears(2, 1), 64);
        x.person(0, 0, 1, 1, 0);
        Edge.is("an HEIRESS", x.bears(3, 1), 32);
        x.person(0, -1, -1, 0, 5);
        x.person(0, 4, 3, 0, 0);
        Edge.is("an HEIRESS with a FATHER", x.bears(5, 1), 16);
        x.person(0, 0, -1, 0, 0);
        Edge.is("she has a brother now", x.bears(5, 1), 0);
        Edge.is("so it is as the FATHER's", x.bears(5, 5), 64);
        LionShield y = new LionShield();
        y.person(3, -1, -1, 0, 1);
        y.person(0, -1, -1, 1, 2);
        y.person(0, 0, 1, 0, 0);
        Edge.is("(31 and 0) / 2 is cut", y.bears(2, 1), 15);
        LionShield z = childBy("m", 0);
        z.person(0, 0, -1, 0, 0);
        Edge.is("a law's m without a MOTHER is f", z.bears(3, 1), 64);
    }

    private static void lessTwo() {
        Edge.says(0, "YOUNGER: as HEIR, less 2 (0 at least).");
        int[] heir = {0, 1, 2, 3, 63, 64, 65};
        int[] due = {0, 0, 0, 1, 61, 62, 62};
        for (int i = 0; i < heir.length; i++) {
            Edge.is("as HEIR " + heir[i], childBy(String.valueOf(heir[i]), 1).bears(2, 0), due[i]);
        }
        LionShield x = new LionShield();
        x.person(1, -1, -1, 0, 0);
        Edge.is("without FATHER", x.bears(0, 0), 62);
        Edge.is("of others", x.bears(0, 1), 0);
    }

    private static void half() {
        Edge.says(0, "LABELLED: half (cut) of as YOUNGER.");
        int[] heir = {0, 2, 3, 4, 5, 6, 64};
        int[] due = {0, 0, 0, 1, 1, 2, 31};
        for (int i = 0; i < heir.length; i++) {
            Edge.is("as HEIR " + heir[i], childBy(String.valueOf(heir[i]), 3).bears(2, 0), due[i]);
        }
    }

    private static void otherKinds() {
        Edge.says(0, "ADOPTED: as HEIR, but 64 of FIRST. FOUNDLING: 8 of FIRST, else 0. BASTARD: what the MOTHER bears"
            + " (0 without), heiress or not.");
        Edge.is("ADOPTED, FIRST", childBy("5", 2).bears(2, 7), 64);
        Edge.is("ADOPTED, another", childBy("5", 2).bears(2, 6), 5);
        Edge.is("FOUNDLING, FIRST", childBy("5", 4).bears(2, 7), 8);
        Edge.is("FOUNDLING, another", childBy("5", 4).bears(2, 6), 0);
        Edge.is("BASTARD", childBy("5", 5).bears(2, 2), 64);
        Edge.is("BASTARD, FIRST", childBy("5", 5).bears(2, 7), 0);
        LionShield x = new LionShield();
        x.person(5, -1, -1, 0, 7);
        Edge.is("BASTARD of nobody", x.bears(0, 7), 0);
        x.person(5, 0, -1, 0, 7);
        Edge.is("BASTARD without a MOTHER", x.bears(1, 7), 0);
        LionShield y = Lands.TWO.make();
        y.person(0, 0, 1, 1, 0);
        y.person(0, 0, 1, 0, 0);
        y.person(5, -1, 2, 0, 7);
        Edge.is("BASTARD of one who is no heiress", y.bears(4, 1), 32);
    }

    private static void barred() {
        Edge.says(0, "Of what is BARRED for one: 0 (that one alone bears none; those who come of it take from what it would bear"
            + " unbarred).");
        LionShield x = Lands.TWO.make();
        x.person(0, 0, 1, 0, 0);
        x.person(0, 2, -1, 0, 0);
        x.set(0, 5, 1 << 1);
        x.set(1, 5, 255);
        x.set(2, 5, 1 << 1);
        Edge.is("one that is BARRED", x.bears(0, 1), 0);
        Edge.is("all are BARRED", x.bears(1, 2), 0);
        Edge.is("its child, BARRED too", x.bears(2, 1), 0);
        Edge.is("its child, another", x.bears(2, 2), 32);
        Edge.is("the child's child", x.bears(3, 1), 32);
        x.person(5, -1, 1, 0, 0);
        Edge.is("a BASTARD's mother is BARRED", x.bears(4, 2), 64);
        for (int charge = 0; charge < 8; charge++) {
            LionShield y = new LionShield();
            y.person(0, -1, -1, 0, charge);
            y.set(0, 5, 255 - (1 << charge));
            Edge.is("all but " + charge, y.bears(0, charge), 64);
            y.set(0, 5, 1 << charge);
            Edge.is("none but " + charge, y.bears(0, charge), 0);
        }
    }

    private static void worth() {
        Edge.says(0, "WORTH: HEIR: 10 FIRST. YOUNGER: as HEIR, and 6. LABELLED: twice as YOUNGER. ADOPTED: 99 less as HEIR."
            + " FOUNDLING: as ADOPTED, less 8. BASTARD: 5.");
        int[] of0 = {0, 6, 99, 12, 91, 5};
        int[] of7 = {70, 76, 29, 152, 21, 5};
        for (int kind = 0; kind < 6; kind++) {
            LionShield x = new LionShield();
            x.person(kind, -1, -1, 0, 0);
            x.person(kind, -1, -1, 0, 7);
            Edge.is("KIND " + kind + ", FIRST 0", x.told(0, 7), of0[kind]);
            Edge.is("KIND " + kind + ", FIRST 7", x.told(1, 7), of7[kind]);
            x.set(1, 5, 255);
            Edge.is("KIND " + kind + ", all BARRED", x.told(1, 7), of7[kind]);
        }
    }

    private static void person() {
        Edge.says(2, "One more of PEOPLE: its number. BAD: kind, father, mother (-1, or one there who is he, she), sex (0 he,"
            + " 1 she), first; FULL.");
        State two = Lands.TWO;
        Edge.taken("kind", two, (x, v) -> x.person(v, -1, -1, 0, 0), 2, 0, 1, 2, 3, 4, 5);
        Edge.beyond("kind", two, (x, v) -> x.person(v, -1, -1, 0, 0), 0, 5, BAD);
        Edge.taken("father", two, (x, v) -> x.person(0, v, -1, 0, 0), 2, -1, 0);
        Edge.beyond("father", two, (x, v) -> x.person(0, v, -1, 0, 0), -1, 0, BAD);
        Edge.refused("father 2", two, x -> x.person(0, 2, -1, 0, 0), BAD);
        Edge.taken("mother", two, (x, v) -> x.person(0, -1, v, 0, 0), 2, -1, 1);
        Edge.beyond("mother", two, (x, v) -> x.person(0, -1, v, 0, 0), -1, 1, BAD);
        Edge.refused("mother 0 is he", two, x -> x.person(0, -1, 0, 0, 0), BAD);
        Edge.taken("sex", two, (x, v) -> x.person(0, -1, -1, v, 0), 2, 0, 1);
        Edge.beyond("sex", two, (x, v) -> x.person(0, -1, -1, v, 0), 0, 1, BAD);
        Edge.taken("first", two, (x, v) -> x.person(0, -1, -1, 0, v), 2, 0, 7);
        Edge.beyond("first", two, (x, v) -> x.person(0, -1, -1, 0, v), 0, 7, BAD);
        Edge.refused("father 0 of nobody", Lands.EMPTY, x -> x.person(0, 0, -1, 0, 0), BAD);
        Edge.refused("mother 0 of nobody", Lands.EMPTY, x -> x.person(0, -1, 0, 0, 0), BAD);
        Edge.taken("the first of all", Lands.EMPTY, (x, v) -> x.person(0, -1, -1, v, 0), 0, 0, 1);
        Edge.refused("no room", Lands.FULL, x -> x.person(0, -1, -1, 0, 0), Due.FULL);
        Edge.refused("no room, and kind 6", Lands.FULL, x -> x.person(6, -1, -1, 0, 0), BAD);
        Edge.refused("no room, and father 14", Lands.FULL, x -> x.person(0, 14, -1, 0, 0), BAD);
        Edge.refused("no room, and mother 14", Lands.FULL, x -> x.person(0, -1, 14, 0, 0), BAD);
        Edge.refused("no room, and sex 2", Lands.FULL, x -> x.person(0, -1, -1, 2, 0), BAD);
        Edge.refused("no room, and first 8", Lands.FULL, x -> x.person(0, -1, -1, 0, 8), BAD);
    }

    private static void told() {
        Edge.says(3, "Of one: what 0 KIND, 1 FATHER (-1), 2 MOTHER (-1), 3 sex, 4 FIRST, 5 BARRED, 6 HEIRESS (1, 0), 7 WORTH."
            + " BAD.");
        int[] he = {0, -1, -1, 0, 1, 0, 0, 10};
        int[] she = {0, -1, -1, 1, 2, 0, 1, 20};
        for (int what = 0; what < 8; what++) {
            int w = what;
            Edge.refused("he, what " + w, Lands.TWO, x -> x.told(0, w), he[w]);
            Edge.refused("she, what " + w, Lands.TWO, x -> x.told(1, w), she[w]);
            Edge.beyond("what " + w + " of one", Lands.TWO, (x, v) -> x.told(v, w), 0, 1, BAD);
        }
        Edge.beyond("what", Lands.TWO, (x, v) -> x.told(0, v), 0, 7, BAD);
        Edge.refused("the last of 14", Lands.FULL, x -> x.told(13, 5), 255);
        Edge.refused("the fifteenth", Lands.FULL, x -> x.told(14, 5), BAD);
    }

    private static void bears() {
        Edge.says(4, "BEARS of one, a CHARGE. BAD.");
        Edge.taken("one", Lands.TWO, (x, v) -> x.bears(v, 7), 0, 0, 1);
        Edge.beyond("one", Lands.TWO, (x, v) -> x.bears(v, 7), 0, 1, BAD);
        Edge.taken("charge", Lands.TWO, (x, v) -> x.bears(0, v), 0, 0, 7);
        Edge.beyond("charge", Lands.TWO, (x, v) -> x.bears(0, v), 0, 7, BAD);
        Edge.refused("it only tells", Lands.SOME, x -> x.bears(0, 3), 64);
        Edge.refused("the last of 14", Lands.FULL, x -> x.bears(13, 7), 0);
        Edge.refused("the fifteenth", Lands.FULL, x -> x.bears(14, 7), BAD);
    }

    private static void asKind() {
        Edge.says(5, "One as one of a KIND: FIRST. BAD: one, kind; KIND: it is not of that KIND, nor of one under it.");
        Edge.refused("it only tells", Lands.TWO, x -> x.as(1, 0), 2);
        Edge.beyond("one", Lands.TWO, (x, v) -> x.as(v, 0), 0, 1, BAD);
        Edge.beyond("kind", Lands.TWO, (x, v) -> x.as(0, v), 0, 5, BAD);
        for (int kind = 1; kind < 6; kind++) {
            int k = kind;
            Edge.refused("an HEIR is no " + k, Lands.TWO, x -> x.as(0, k), Due.KIND);
        }
        Edge.refused("BAD ahead of KIND", Lands.TWO, x -> x.as(2, 5), BAD);
        State last = Lands.TWO.then("turned", x -> x.turns(0, 5));
        Edge.refused("the last KIND", last, x -> x.as(0, 5), 1);
        Edge.refused("is not the one ahead of it", last, x -> x.as(0, 4), Due.KIND);
    }

    private static void turns() {
        Edge.says(6, "One is of another KIND from now on: what it was. BAD.");
        Edge.taken("one", Lands.TWO, (x, v) -> x.turns(v, 3), 0, 0, 1);
        Edge.beyond("one", Lands.TWO, (x, v) -> x.turns(v, 3), 0, 1, BAD);
        Edge.taken("kind", Lands.TWO, (x, v) -> x.turns(0, v), 0, 1, 2, 3, 4, 5);
        Edge.beyond("kind", Lands.TWO, (x, v) -> x.turns(0, v), 0, 5, BAD);
        Edge.refused("the KIND that it is", Lands.TWO, x -> x.turns(0, 0), 0);
        Edge.refused("nobody", Lands.EMPTY, x -> x.turns(0, 0), BAD);
        LionShield x = Lands.TWO.make();
        Edge.is("to 5", x.turns(0, 5), 0);
        Edge.is("to 0", x.turns(0, 0), 5);
        Edge.is("the other one stays", x.told(1, 0), 0);
    }

    private static void set() {
        Edge.says(7, "FIRST (what 4), BARRED (5; 0 .. 255) of one becomes v: what it was. BAD.");
        Edge.taken("FIRST", Lands.TWO, (x, v) -> x.set(0, 4, v), 1, 0, 1, 7);
        Edge.beyond("FIRST", Lands.TWO, (x, v) -> x.set(0, 4, v), 0, 7, BAD);
        Edge.taken("BARRED", Lands.TWO, (x, v) -> x.set(0, 5, v), 0, 0, 255);
        Edge.beyond("BARRED", Lands.TWO, (x, v) -> x.set(0, 5, v), 0, 255, BAD);
        Edge.beyond("what", Lands.TWO, (x, v) -> x.set(0, v, 1), 4, 5, BAD);
        for (int what = 0; what < 8; what++) {
            int w = what;
            if (w != 4 && w != 5) {
                Edge.refused("what " + w, Lands.TWO, x -> x.set(0, w, 0), BAD);
            }
        }
        Edge.taken("one", Lands.TWO, (x, v) -> x.set(v, 5, 3), 0, 0, 1);
        Edge.beyond("one", Lands.TWO, (x, v) -> x.set(v, 4, 3), 0, 1, BAD);
        Edge.beyond("one", Lands.TWO, (x, v) -> x.set(v, 5, 3), 0, 1, BAD);
        LionShield x = Lands.TWO.make();
        x.set(0, 4, 7);
        x.set(0, 5, 255);
        Edge.is("FIRST became", x.set(0, 4, 0), 7);
        Edge.is("BARRED became", x.set(0, 5, 0), 255);
        Edge.is("FIRST of the other one stays", x.told(1, 4), 2);
        Edge.is("BARRED of the other one stays", x.told(1, 5), 0);
    }

    private static void fertile() {
        Edge.says(0, "FERTILE is 0 .. 100 (30 at first).");
        Edge.is("at first", new LionShield().count(2), 30);
        Edge.says(8, "FERTILE becomes v: what it was. BAD.");
        Edge.taken("v", Lands.TWO, LionShield::fertile, 30, 0, 30, 100);
        Edge.beyond("v", Lands.TWO, LionShield::fertile, 0, 100, BAD);
        LionShield x = new LionShield();
        x.fertile(100);
        Edge.is("100 became", x.fertile(0), 100);
        Edge.is("0 became", x.fertile(1), 0);
    }

    private static void deal() {
        Edge.says(9, "PEOPLE are drawn, n (1 .. 14) of them, as many as there is room for (no draws for others): how many came."
            + " BAD.");
        Edge.beyond("n", Lands.EMPTY, LionShield::deal, 1, 14, BAD);
        Edge.beyond("n, no room", Lands.FULL, LionShield::deal, 1, 14, BAD);
        Edge.taken("n", Lands.EMPTY, LionShield::deal, 1, 1);
        Edge.taken("n", Lands.EMPTY, LionShield::deal, 14, 14);
        Edge.refused("no room, n 1", Lands.FULL, x -> x.deal(1), 0);
        Edge.refused("no room, n 14", Lands.FULL, x -> x.deal(14), 0);
        LionShield x = new LionShield();
        x.deal(13);
        int z = x.count(7);
        Edge.is("room for one", x.deal(2), 1);
        Edge.is("three draws for it alone", x.count(7), YearsEdges.next(YearsEdges.next(YearsEdges.next(z))));
        LionShield y = new LionShield();
        Edge.is("room for all", y.deal(13) + y.deal(1), 14);
    }

    private static void seed() {
        Edge.says(10, "z becomes v: what it was.");
        for (int v : new int[] {Integer.MIN_VALUE, -1, 0, 1, Integer.MAX_VALUE}) {
            LionShield x = new LionShield();
            Edge.is("1 at first", x.seed(v), 1);
            Edge.is("z", x.count(7), v);
            Edge.is("what it was", x.seed(5), v);
        }
    }
}
