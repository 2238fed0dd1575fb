/** What every test of the project shares: answers against what is due, and the feeding of texts. */
final class Due {
    static final int BAD = -1000000001, NO = -1000000002, FULL = -1000000003, NONE = -1000000005;
    static final int NOTHING = -1000000011, KIND = -1000000012, INDEX = -1000000013, SIZE = -1000000014;

    private static int asked = 0;
    private static int wrong = 0;

    private Due() {
    }

    static void is(String call, long got, long want) {
        asked++;
        if (got != want) {
            wrong++;
            System.out.println(call + " answered " + got + ", due is " + want);
        }
    }

    /** Feeds the bytes of a text (characters 0 to 255) and trims what was fed too much. */
    static void onTape(LionShield x, String bytes) {
        int before = x.count(6);
        for (int i = 0; i < bytes.length(); i += 12) {
            x.feed(four(bytes, i), four(bytes, i + 4), four(bytes, i + 8));
        }
        x.trim(before + bytes.length());
    }

    static int text(LionShield x, String bytes) {
        onTape(x, bytes);
        return x.text();
    }

    static int four(String bytes, int from) {
        int number = 0;
        for (int i = from; i < from + 4; i++) {
            number = number << 8 | (i < bytes.length() ? bytes.charAt(i) & 255 : 0);
        }
        return number;
    }

    static void end() {
        System.out.println(wrong == 0 ? asked + " answers are as due" : wrong + " of " + asked + " answers are not as due");
        if (wrong != 0) {
            System.exit(1);
        }
    }
}
