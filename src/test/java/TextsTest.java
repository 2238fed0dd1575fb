/** Promises 24 to 28. */
public final class TextsTest {
    public static void main(String[] args) {
        feed();
        trim();
        whatTextsGive();
        wrapAndTruth();
        faults();
        deepTexts();
        numbersOfTexts();
        told();
        why();
        joinInShields();
        Due.end();
    }

    private static void feed() {
        LionShield x = new LionShield();
        for (int n = 1; n <= 8; n++) {
            Due.is("24: " + n, x.feed(1, 2, 3), 12 * n);
        }
        Due.is("24: more than 96", x.feed(1, 2, 3), Due.FULL);
        Due.is("24: as it was", x.count(6), 96);
        x.trim(85);
        Due.is("24: 97", x.feed(1, 2, 3), Due.FULL);
        x.trim(84);
        Due.is("24: 96", x.feed(1, 2, 3), 96);
        LionShield y = new LionShield();
        y.feed(0x66656520, 0x31322B33, 0x34352020);
        Due.is("24: the highest byte first", y.text(), 0);
        Due.is("24: fee 12+345", y.fee(), 357);
        Due.is("26: the tape is used up", y.count(6), 0);
    }

    private static void trim() {
        LionShield x = new LionShield();
        Due.is("25: nothing there", x.trim(0), 0);
        Due.is("25: too many", x.trim(1), Due.BAD);
        x.feed(0, 0, 0);
        Due.is("25: 13 of 12", x.trim(13), Due.BAD);
        Due.is("25: -1", x.trim(-1), Due.BAD);
        Due.is("25: all", x.trim(12), 12);
        Due.is("25: some", x.trim(5), 5);
        Due.is("25: they do not come back", x.trim(6), Due.BAD);
        Due.is("25: count", x.count(6), 5);
    }

    private static void gives(String e, int want) {
        LionShield x = new LionShield();
        x.person(0, -1, -1, 0, 0);
        x.person(0, -1, -1, 0, 0);
        x.years(7);
        Due.is("26: fee " + e, Due.text(x, "fee " + e), 0);
        Due.is("22: fee " + e, x.fee(), want);
    }

    private static void whatTextsGive() {
        gives("y", 7);
        gives("p", 2);
        gives("0009", 9);
        gives("9999", 9999);
        gives("1-2-3", -4);
        gives("2+3*4", 14);
        gives("(2+3)*4", 20);
        gives("100/7/2", 7);
        gives("7/2*2", 6);
        gives("(0-7)/2", -3);
        gives("5/0", 0);
        gives("5/(p-2)+1", 1);
        gives("3<4", 1);
        gives("4<4", 0);
        gives("4=4", 1);
        gives("4>3", 1);
        gives("3>4", 0);
        gives("4>4", 0);
        gives("5=4", 0);
        gives("5<4", 0);
        gives("1+1=p", 1);
        gives("0|5", 1);
        gives("0|0", 0);
        gives("4&2", 1);
        gives("4&0", 0);
        gives("1|0&0", 1);
        gives("(1|0)&0", 0);
        gives("1&2<1", 0);
        gives("1<2&3<4", 1);
        gives("1<2|0|0", 1);
        gives("!0", 1);
        gives("!7", 0);
        gives("!!7", 1);
        gives("!0+1", 2);
        gives("!(0+1)", 0);
        gives("6", 6);
        gives("(6)", 6);
        gives("  ( 6 )  ", 6);
        gives("! y", 0);
    }

    private static void wrapAndTruth() {
        gives("9999*9999*9999", 9999 * 9999 * 9999);
        gives("0-9999*9999*9999-9999", -(9999 * 9999 * 9999) - 9999);
        // 65536 * 32768 is the least int, and stays it by -1
        gives("(256*256*(256*128))/(0-1)", Integer.MIN_VALUE);
        gives("!(256*256*256*256)", 1);
        gives("5/0&1", 0);
        gives("5/0|1", 1);
    }

    private static void fault(String bytes, int place) {
        LionShield x = new LionShield();
        Due.is("26: [" + bytes + "]", Due.text(x, bytes), -100 - place);
        Due.is("26: used up [" + bytes + "]", x.count(6), 0);
        Due.is("26: no text [" + bytes + "]", x.count(4), 0);
    }

    private static void faults() {
        fault("", 0);
        fault("     ", 5);
        fault("join", 4);
        fault("join  ", 6);
        fault("joins f", 0);
        fault("  joins f", 2);
        fault("Join f", 0);
        fault("joinf", 0);
        fault("join1", 4);
        fault("join 1f", 6);
        fault("join f1", 6);
        fault("join f 1", 7);
        fault("join ff", 5);
        fault("join a", 5);
        fault("join y", 5);
        fault("fee n", 4);
        fault("fee f", 4);
        fault("fine y", 5);
        fault("fine m", 5);
        fault("1 join f", 0);
        fault("(join f)", 0);
        fault("join 12345", 5);
        fault("join 00001", 5);
        fault("join f+", 7);
        fault("join f+ ", 8);
        fault("join +f", 5);
        fault("join -1", 5);
        fault("join f++m", 7);
        fault("join ()", 6);
        fault("join (f", 7);
        fault("join f)", 6);
        fault("join (f))", 8);
        fault("join f!m", 6);
        fault("join f(m)", 6);
        fault("join f<m<n", 8);
        fault("join f<m=n", 8);
        fault("join (f<m>n)", 9);
        fault("join f%m", 6);
        fault("join f" + (char) 200 + "m", 6);
        fault("join f" + (char) 0, 6);
        fault("join f\tm", 6);
        fault("join", 4);
        fault("join join f", 5);
        fault("join !", 6);
        fault("join f&", 7);
        fault("join f&|m", 7);
        fault("join F", 5);
        fault("fe e", 0);
        fault("koin f", 0);
        fault("gee y", 0);
        fault("joinz", 0);
        fault("joina", 0);
        fault("join z", 5);
        fault("fee {", 4);
        fault("fee `", 4);
        fault("fee9", 3);
        fault("fee0", 3);
        LionShield x = new LionShield();
        Due.is("26: a sign right behind the key", Due.text(x, "join(f)"), 0);
        Due.is("26: a ! right behind the key", Due.text(x, "fee!y"), 1);
        Due.is("26: blanks all over", Due.text(x, "  fine  a  +  b  "), 2);
        Due.is("26: two tests in brackets", Due.text(x, "join (f<m)<n"), 3);
        Due.is("26: two tests by &", Due.text(x, "join f<m&m<n|f=n"), 4);
    }

    private static void deepTexts() {
        LionShield x = new LionShield();
        Due.is("26: eight (", Due.text(x, "fee ((((((((5))))))))"), 0);
        Due.is("26: eight !", Due.text(x, "fee !!!!!!!!5"), 1);
        Due.is("22: eight ! of 5", x.fee(), 1);
        Due.is("26: eight of each", Due.text(x, "fee !(!(!(!(!(!(!(!(0))))))))"), 2);
        Due.is("22: eight ! of 0", x.fee(), 0);
        Due.is("26: one behind the other they are not within", Due.text(x, "fee !!!!!!!!5+!!!!!!!!5"), 3);
        Due.is("26: nor are (", Due.text(x, "fee ((((((((5))))))))+((((((((6))))))))"), 4);
        Due.is("22: 11", x.fee(), 11);
        fault("fee (((((((((5)))))))))", 12);
        fault("fee !!!!!!!!!5", 12);
        fault("fee !(!(!(!(!(!(!(!(!5))))))))", 20);
        fault("fee !(!(!(!(!(!(!(!((5)))))))))", 20);
        fault("fee ((((((((5+(6)))))))))", 14);
        fault("fee !(!!!!!!!5+!!!!!!!!6)", 22);
        fault("fee ((((((((5)))))))", 20);
        Due.is("26: 96 bytes", Due.text(x, "fee " + "1+".repeat(45) + "11"), 5);
        Due.is("22: 45 and 11", x.fee(), 56);
        Due.is("27: 46 numbers", x.textTold(5, 1), 46);
        String deep = "fee " + "1|1&1<1+1*(".repeat(7) + "2" + ")".repeat(7);
        Due.is("26: many wait at once", Due.text(x, deep), 6);
        Due.is("22: and are worked out", x.fee(), 1);
    }

    private static void numbersOfTexts() {
        LionShield x = new LionShield();
        for (int n = 0; n < 14; n++) {
            Due.is("26: text " + n, Due.text(x, "fee " + n), n);
        }
        Due.is("26: the fifteenth", Due.text(x, "fee 99"), Due.FULL);
        Due.is("26: uses the tape up", x.count(6), 0);
        Due.is("26: a fault stands ahead of FULL", Due.text(x, "fee 9a"), -105);
        Due.is("26: the last one counts still", x.fee(), 13);
        Due.is("42: texts", x.count(4), 14);
    }

    private static void told() {
        LionShield x = new LionShield();
        Due.text(x, "fine (a+b)*!a-12/a");
        Due.text(x, "join n");
        Due.is("27: key fine", x.textTold(0, 0), 2);
        Due.is("27: numbers and names", x.textTold(0, 1), 5);
        Due.is("27: key join", x.textTold(1, 0), 0);
        Due.is("27: one name", x.textTold(1, 1), 1);
        Due.is("27: text 2", x.textTold(2, 0), Due.BAD);
        Due.is("27: text -1", x.textTold(-1, 0), Due.BAD);
        Due.is("27: what 2", x.textTold(0, 2), Due.BAD);
        Due.is("27: what -1", x.textTold(0, -1), Due.BAD);
    }

    private static void why() {
        LionShield x = new LionShield();
        Due.is("28: none", x.why(1), Due.NONE);
        Due.text(x, "fee 1");
        Due.text(x, "fine 1");
        Due.text(x, "fee 2");
        Due.is("28: the last", x.why(1), 2);
        Due.is("28: fine", x.why(2), 1);
        Due.is("28: join", x.why(0), Due.NONE);
        Due.is("28: -1", x.why(-1), Due.BAD);
        Due.is("28: 3", x.why(3), Due.BAD);
    }

    private static void joinInShields() {
        LionShield x = new LionShield();
        x.person(0, -1, -1, 0, 1);
        x.person(0, -1, -1, 1, 2);
        x.person(0, 0, 1, 0, 0);
        x.person(1, 0, 1, 0, 0);
        Due.text(x, "join f/4+m/8");
        Due.is("4: f by the law", x.bears(2, 1), 16);
        Due.is("4: m by the law", x.bears(2, 2), 8);
        Due.is("4: younger by the law", x.bears(3, 2), 6);
        Due.text(x, "join 70-n");
        Due.is("4: held at 64", x.bears(2, 0), 64);
        Due.is("4: n", x.bears(2, 7), 63);
        Due.is("4: founders have no law", x.bears(0, 7), 0);
        Due.text(x, "join 0-1");
        Due.is("4: held at 0", x.bears(2, 1), 0);
        Due.text(x, "join m");
        x.person(0, 0, -1, 0, 0);
        Due.is("4: m without a mother is f", x.bears(4, 1), 64);
        Due.is("4: m of an heiress", x.bears(2, 1), 0);
    }
}
