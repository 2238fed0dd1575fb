/** Edges of part 4 of the terms, and of promises 24 to 28. */
final class TextEdges {
    private static final int BAD = Due.BAD;
    private static final String[] KEYS = {"join", "fee", "fine"};
    private static final String[] NAMES = {"fmn", "yp", "ab"};

    private TextEdges() {
    }

    static void all() {
        fourteenTexts();
        tape();
        grammar();
        numbers();
        names();
        words();
        everyByte();
        blanks();
        faults();
        openAtOnce();
        tooSoon();
        ints();
        tests();
        lastCounts();
        feed();
        trim();
        text();
        textTold();
        why();
    }

    /** The text is taken as the first one, and all is as without a tape but for it. */
    private static void goes(String text) {
        LionShield x = new LionShield();
        Edge.is("<" + text + ">", Due.text(x, text), 0);
        Edge.is("tape behind <" + text + ">", x.count(6), 0);
        Edge.is("texts behind <" + text + ">", x.count(4), 1);
    }

    private static void fault(String text, int place) {
        LionShield x = new LionShield();
        Edge.is("<" + text + ">", Due.text(x, text), -100 - place);
        Edge.is("tape behind <" + text + ">", x.count(6), 0);
        Edge.is("texts behind <" + text + ">", x.count(4), 0);
    }

    private static void gives(String e, int due) {
        Edge.is(e, PeopleEdges.gives(e), due);
    }

    private static void fourteenTexts() {
        Edge.says(0, "TEXTS, 14 at most, numbered from 0, from THE TAPE (96 bytes at most; an act that reads it uses it up, whatever"
            + " it answers): KEY E.");
        LionShield x = new LionShield();
        for (int n = 0; n < 14; n++) {
            Edge.is("number", Due.text(x, KEYS[n % 3] + " " + n), n);
            Edge.is("so many", x.count(4), n + 1);
        }
        Edge.is("the fifteenth", Due.text(x, "fee 99"), Due.FULL);
        Edge.is("the fourteenth still counts", x.fee(), 13);
        Edge.is("fourteen", x.count(4), 14);
    }

    private static void tape() {
        LionShield x = new LionShield();
        Due.onTape(x, "fee 1");
        x.text();
        Edge.is("used up by a number", x.count(6), 0);
        Due.onTape(x, "fee");
        x.text();
        Edge.is("used up by a FAULT", x.count(6), 0);
        Edge.is("nothing is left to read", x.text(), -100);
        LionShield y = Lands.FULL.make();
        y.text();
        Edge.is("used up by FULL", y.count(6), 0);
        goes("fee " + "1+".repeat(45) + "11");
        goes("fee" + " ".repeat(92) + "y");
        fault("fee" + " ".repeat(93), 96);
        fault(" ".repeat(96), 96);
        fault("fee" + "!".repeat(93), 11);
        fault(" ".repeat(95) + "y", 95);
        fault("fee " + "1+".repeat(46), 96);
    }

    private static void grammar() {
        Edge.says(0, "KEY: join | fee | fine.");
        for (String key : KEYS) {
            goes(key + " 1");
            fault(key, key.length());
            fault(key.substring(0, key.length() - 1) + " 1", 0);
            fault(key + "s 1", 0);
            fault("x" + key + " 1", 0);
            fault(key.substring(1) + " 1", 0);
            fault(key.toUpperCase() + " 1", 0);
            fault("1 " + key, 0);
            for (int i = 0; i < key.length(); i++) {
                fault(key.substring(0, i) + "z" + key.substring(i + 1) + " 1", 0);
            }
        }
        Edge.says(0, "OR: AND { | AND }; AND: TEST { & TEST }; TEST: SUM [ (< | = | >) SUM ]; SUM: TERM { (+ | -) TERM }; TERM:"
            + " PIECE { (* | /) PIECE }");
        gives("0|1&0", 0);
        gives("(0|1)&1", 1);
        gives("1|1&0", 1);
        gives("2&1<2", 1);
        gives("1<1+1", 1);
        gives("1+2*3", 7);
        gives("8-4-2", 2);
        gives("8/4/2", 1);
        gives("8/(4/2)", 4);
        gives("7*2/4", 3);
        gives("7/4*2", 2);
        for (String sign : new String[] {"<", "=", ">"}) {
            goes("fee 1" + sign + "2");
            fault("fee 1" + sign + "2<3", 7);
            fault("fee 1" + sign + "2=3", 7);
            fault("fee 1" + sign + "2>3", 7);
            goes("fee (1" + sign + "2)=3");
            goes("fee 1" + sign + "2&3" + sign + "4|5" + sign + "6");
        }
    }

    private static void numbers() {
        Edge.says(0, "PIECE: NUMBER (1 to 4 digits) | NAME | ! PIECE | ( E ).");
        gives("0", 0);
        gives("9", 9);
        gives("0000", 0);
        gives("0010", 10);
        gives("9999", 9999);
        fault("fee 00000", 4);
        fault("fee 10000", 4);
        fault("fee 1+99999", 6);
        fault("fee 1+" + "9".repeat(90), 6);
        fault("fee ()", 5);
        fault("fee !", 5);
        fault("fee !+1", 5);
        goes("fee !(1)");
        goes("fee (!1)");
    }

    private static void names() {
        Edge.says(0, "NAMES, each one letter: of join f, m as told, n the number of the CHARGE; of fee y THE YEAR, p how many"
            + " PEOPLE");
        for (int key = 0; key < 3; key++) {
            for (char c = 'a'; c <= 'z'; c++) {
                if (NAMES[key].indexOf(c) >= 0) {
                    goes(KEYS[key] + " " + c);
                } else {
                    fault(KEYS[key] + " " + c, KEYS[key].length() + 1);
                }
                fault(KEYS[key] + " " + NAMES[key].charAt(0) + c, KEYS[key].length() + 1);
            }
        }
        LionShield x = Lands.TWO.make();
        x.person(0, 0, -1, 0, 0);
        Due.text(x, "join n");
        Edge.is("n of the first CHARGE", x.bears(2, 0), 0);
        Edge.is("n of the last CHARGE", x.bears(2, 7), 7);
    }

    private static void words() {
        Edge.says(0, "A word is a row of letters a .. z, or of digits, as long as it goes; any other byte is a sign by itself.");
        fault("fee yp", 4);
        fault("feey", 0);
        fault("fee 12y", 6);
        fault("fee y12", 5);
        fault("fee Y", 4);
        fault("fee @", 4);
        fault("fee {", 4);
        fault("fee `", 4);
        fault("fee :", 4);
        fault("fee y{", 5);
        fault("fee y:", 5);
    }

    /** Each of the 256 bytes where a PIECE is to come, and behind one. */
    private static void everyByte() {
        for (int b = 0; b < 256; b++) {
            char c = (char) b;
            boolean letter = c >= 'a' && c <= 'z';
            boolean digit = c >= '0' && c <= '9';
            String ahead = "fee " + c;
            if (digit || c == 'y' || c == 'p') {
                goes(ahead);
            } else {
                fault(ahead, c == ' ' || c == '(' || c == '!' ? 5 : 4);
            }
            String behind = "fee y" + c;
            if (c == ' ') {
                goes(behind);
            } else if (letter) {
                fault(behind, 4);
            } else {
                fault(behind, "|&<=>+-*/".indexOf(c) >= 0 ? 6 : 5);
            }
        }
    }

    private static void blanks() {
        Edge.says(0, "Between words and signs, and at the ends, there may be blanks (byte 32); a word right behind another one needs"
            + " one.");
        goes("  fee  (  1  +  y  )  *  !  2  ");
        goes("fee(1)");
        goes("fee!1");
        goes("fee 1");
        fault("fee1", 3);
        fault("fee 1y", 5);
        fault("fee y1", 5);
        fault("fee 1 y", 6);
        fault("fee y 1", 6);
        fault("fee y p", 6);
        fault("fee 1 2", 6);
        fault("f ee 1", 0);
        fault("fee\t1", 3);
        fault("fee\n1", 3);
        fault("fee" + (char) 0 + "1", 3);
        fault("fee" + (char) 160 + "1", 3);
        fault("fee 1" + (char) 31, 5);
        fault("fee 1" + (char) 33, 5);
    }

    private static void faults() {
        Edge.says(0, "FAULT: the first byte of the first word or sign with which no TEXT goes on (a word that needs a blank ahead of"
            + " it, a NUMBER of more than 4 digits");
        fault("x", 0);
        fault("x y z", 0);
        fault("fee ? ?", 4);
        fault("fee 1 ? 2 ?", 6);
        fault("fee 12345 ?", 4);
        fault("fee 1+(2*?)", 9);
        fault("fee 1)", 5);
        fault("fee (1))", 7);
        fault("fee 1(2)", 5);
        fault("fee 1!2", 5);
        fault("fee 1++2", 6);
        fault("fee -1", 4);
        fault("fee fee", 4);
        fault("fee 1 fee", 6);
        fault("fee1 ?", 3);
    }

    private static void openAtOnce() {
        Edge.says(0, "the ninth ( that would be open within others, the ninth ! likewise, each by itself)");
        String eight = "((((((((1))))))))";
        goes("fee " + eight);
        fault("fee (" + eight + ")", 12);
        goes("fee " + eight + "+" + eight + "+" + eight);
        fault("fee (2+" + eight + ")", 14);
        goes("fee ((((((((1)+(2))))))))+(3)");
        goes("fee !!!!!!!!1");
        fault("fee !!!!!!!!!1", 12);
        goes("fee !!!!!!!!1+!!!!!!!!1&!!!!!!!!1");
        goes("fee !!!!!!!!" + eight);
        goes("fee !(!(!(!(!(!(!(!(1))))))))");
        fault("fee !(!(!(!(!(!(!(!(!1))))))))", 20);
        fault("fee !(!(!(!(!(!(!(!((1)))))))))", 20);
        fault("fee !!!!!!!!(!1)", 13);
        goes("fee !!!!!!!(!1)");
        goes("fee !!!!!!!(!1+!2)");
        goes("fee !!!!!!!!(1)+!2");
        fault("fee ((((((((!(1)))))))))", 13);
        goes("fee ((((((((!!!!!!!!1))))))))");
        gives("!!!!!!!!5", 1);
        gives("!!!!!!!5", 0);
        gives(eight, 1);
    }

    private static void tooSoon() {
        Edge.says(0, "the end (the place behind the last byte), if it comes too soon.");
        fault("", 0);
        fault(" ", 1);
        fault("fee", 3);
        fault("fee ", 4);
        fault("fee 1+", 6);
        fault("fee 1+  ", 8);
        fault("fee (1", 6);
        fault("fee (", 5);
        fault("fee !", 5);
        fault("fee 1<", 6);
        fault("fee 1&", 6);
        fault("fee 1|", 6);
        fault("fee ((1)", 8);
    }

    private static void ints() {
        Edge.says(0, "Ints wrap; / is 0 by 0");
        gives("256*256*(256*128)", Integer.MIN_VALUE);
        gives("256*256*(256*128)-1", Integer.MAX_VALUE);
        gives("256*256*(256*128)-1+1", Integer.MIN_VALUE);
        gives("256*256*(256*256)", 0);
        gives("9999*9999*9999", (int) (9999L * 9999L * 9999L));
        gives("0-256*256*(256*128)", Integer.MIN_VALUE);
        gives("256*256*(256*128)/(0-1)", Integer.MIN_VALUE);
        gives("256*256*(256*128)*(0-1)", Integer.MIN_VALUE);
        gives("5/0", 0);
        gives("0/0", 0);
        gives("(0-5)/0", 0);
        gives("5/0+7", 7);
        gives("5/(1-1)", 0);
        gives("256*256*(256*128)/0", 0);
        LionShield x = Lands.TWO.make();
        x.person(0, 0, 1, 0, 0);
        Due.text(x, "join f/m");
        Edge.is("join / by 0", x.bears(2, 1), 0);
        Edge.is("join 0 / 64", x.bears(2, 2), 0);
    }

    private static void tests() {
        Edge.says(0, "tests, & | ! give 1 or 0 (what is not 0 is true; both sides are worked out).");
        gives("2<3", 1);
        gives("3<3", 0);
        gives("4<3", 0);
        gives("2=3", 0);
        gives("3=3", 1);
        gives("2>3", 0);
        gives("3>3", 0);
        gives("4>3", 1);
        gives("256*256*(256*128)<256*256*(256*128)-1", 1);
        gives("0-1<0", 1);
        gives("5&7", 1);
        gives("5&0", 0);
        gives("0&5", 0);
        gives("0|7", 1);
        gives("7|0", 1);
        gives("0|0", 0);
        gives("!0", 1);
        gives("!1", 0);
        gives("!7", 0);
        gives("!(0-1)", 0);
        gives("!!7", 1);
        gives("(0-1)&(0-1)", 1);
        gives("0-1|0", 1);
        gives("7", 7);
        gives("1|5/0", 1);
        gives("0&5/0", 0);
        gives("!256*256", 0);
        gives("!(256*256*(256*256))", 1);
    }

    private static void lastCounts() {
        Edge.says(0, "Of a KEY that TEXT counts that was told last.");
        LionShield x = new LionShield();
        Due.text(x, "fee 1");
        x.keep();
        Due.text(x, "fee 2");
        Due.text(x, "fine 3");
        Edge.is("the second", x.fee(), 2);
        Due.text(x, "fee 4+");
        Edge.is("one with a FAULT does not", x.fee(), 2);
        x.back();
        Edge.is("back by the image", x.fee(), 1);
        Edge.is("its number", x.why(1), 0);
        Edge.is("none of fine", x.why(2), Due.NONE);
    }

    private static State onTape(int bytes) {
        return Lands.EMPTY.then(bytes + " bytes", x -> Due.onTape(x, " ".repeat(bytes)));
    }

    private static void feed() {
        Edge.says(24, "Twelve bytes come to THE TAPE, the highest of each number first: how many it has. FULL: it would have more"
            + " than 96.");
        Edge.is("0 bytes", onTape(0).make().feed(0, 0, 0), 12);
        Edge.is("83 bytes", onTape(83).make().feed(0, 0, 0), 95);
        Edge.is("84 bytes", onTape(84).make().feed(0, 0, 0), 96);
        Edge.refused("85 bytes", onTape(85), x -> x.feed(0, 0, 0), Due.FULL);
        Edge.refused("95 bytes", onTape(95), x -> x.feed(0, 0, 0), Due.FULL);
        Edge.refused("96 bytes", Lands.FULL, x -> x.feed(-1, -1, -1), Due.FULL);
        LionShield x = new LionShield();
        x.feed(('f' << 24) + ('e' << 16) + ('e' << 8) + ' ', ('1' << 24) + ('2' << 16) + ('+' << 8) + '3',
            ('4' << 24) + ('5' << 16) + ('+' << 8) + '6');
        Edge.is("all twelve, in their order", x.text(), 0);
        Edge.is("fee 12+345+6", x.fee(), 363);
        LionShield y = new LionShield();
        y.feed(-1, Integer.MIN_VALUE, Integer.MAX_VALUE);
        Edge.is("bytes above 127", y.text(), -100);
        Edge.is("behind what was kept", behindThree(), 0);
    }

    private static int behindThree() {
        LionShield x = new LionShield();
        Due.onTape(x, "fee");
        x.feed(0x20312020, 0x20202020, 0x20202020);
        return x.text();
    }

    private static void trim() {
        Edge.says(25, "THE TAPE keeps its first n bytes: n. BAD.");
        Edge.refused("nothing of nothing", Lands.EMPTY, x -> x.trim(0), 0);
        Edge.beyond("n of nothing", Lands.EMPTY, LionShield::trim, 0, 0, BAD);
        Edge.refused("all of 10", Lands.SOME, x -> x.trim(10), 10);
        Edge.beyond("n of 10", Lands.SOME, LionShield::trim, 0, 10, BAD);
        Edge.refused("all of 96", Lands.FULL, x -> x.trim(96), 96);
        Edge.beyond("n of 96", Lands.FULL, LionShield::trim, 0, 96, BAD);
        LionShield x = Lands.SOME.make();
        Edge.is("9", x.trim(9), 9);
        Edge.is("9 are left", x.count(6), 9);
        Edge.is("fee y+123", x.text(), 3);
        Edge.is("the first 9 are kept", x.fee(), 126);
        LionShield y = Lands.SOME.make();
        Edge.is("0", y.trim(0), 0);
        Edge.is("none is left", y.count(6), 0);
        Edge.is("they do not come back", y.trim(1), BAD);
    }

    private static void text() {
        Edge.says(26, "THE TAPE is a TEXT: its number. -100 less the place of its FAULT; FULL.");
        State without = Lands.SOME.then("an empty tape", x -> x.trim(0));
        Edge.refused("nothing to read", without, LionShield::text, -100);
        State wrong = without.then("a FAULT", x -> Due.onTape(x, "fee 1+?"));
        Edge.leaves("a FAULT: only the tape is gone", wrong, LionShield::text, -106, without);
        State last = without.then("a FAULT at 95", x -> Due.onTape(x, "fee " + "1+".repeat(45) + "1)"));
        Edge.leaves("the last byte", last, LionShield::text, -195, without);
        State end = without.then("a FAULT at 96", x -> Due.onTape(x, "fee " + "1+".repeat(46)));
        Edge.leaves("behind the last byte", end, LionShield::text, -196, without);
        State empty = Lands.FULL.then("an empty tape", x -> x.trim(0));
        Edge.leaves("FULL: only the tape is gone", Lands.FULL, LionShield::text, Due.FULL, empty);
        State both = empty.then("a FAULT", x -> Due.onTape(x, "fee ?"));
        Edge.leaves("a FAULT ahead of FULL", both, LionShield::text, -104, empty);
        Edge.refused("no byte, and no room", empty, LionShield::text, -100);
    }

    private static void textTold() {
        Edge.says(27, "Of a TEXT: what 0 KEY (0 join, 1 fee, 2 fine), 1 how many NUMBERS and NAMES it has. BAD.");
        for (int key = 0; key < 3; key++) {
            int k = key;
            Edge.refused("KEY", Lands.SOME, x -> x.textTold(k, 0), k);
        }
        Edge.refused("f, m, 2, n, 2", Lands.SOME, x -> x.textTold(0, 1), 5);
        Edge.beyond("text", Lands.SOME, (x, v) -> x.textTold(v, 0), 0, 2, BAD);
        Edge.beyond("what", Lands.SOME, (x, v) -> x.textTold(0, v), 0, 1, BAD);
        Edge.refused("the last of 14", Lands.FULL, x -> x.textTold(13, 0), 1);
        Edge.refused("the fifteenth", Lands.FULL, x -> x.textTold(14, 0), BAD);
        Edge.refused("no text", Lands.EMPTY, x -> x.textTold(0, 0), BAD);
        LionShield x = new LionShield();
        Due.text(x, "fee " + "1+".repeat(45) + "1");
        Due.text(x, "fee !(1)");
        Edge.is("the most", x.textTold(0, 1), 46);
        Edge.is("the fewest", x.textTold(1, 1), 1);
        x.keep();
        Due.text(x, "fee 1");
        x.back();
        Edge.is("one that is gone by the image", x.textTold(2, 0), BAD);
    }

    private static void why() {
        Edge.says(28, "The TEXT that counts for a KEY. BAD; NONE.");
        Edge.beyond("key", Lands.SOME, LionShield::why, 0, 2, BAD);
        Edge.beyond("key, no texts", Lands.EMPTY, LionShield::why, 0, 2, BAD);
        for (int key = 0; key < 3; key++) {
            int k = key;
            Edge.refused("key " + k, Lands.SOME, x -> x.why(k), k);
            Edge.refused("none of " + k, Lands.EMPTY, x -> x.why(k), Due.NONE);
        }
        int[] due = {Due.NONE, 13, 12};
        for (int key = 0; key < 3; key++) {
            int k = key;
            Edge.refused("of 14, key " + k, Lands.FULL, x -> x.why(k), due[k]);
        }
    }
}
