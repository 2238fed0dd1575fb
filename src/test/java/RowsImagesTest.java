/** Promises 38 to 42. */
public final class RowsImagesTest {
    public static void main(String[] args) {
        tell();
        checkRefused();
        checkRight();
        checkWrong();
        checkByTheImage();
        checkNearTheLastYear();
        keepAndBack();
        count();
        Due.end();
    }

    private static void tell() {
        LionShield x = new LionShield();
        for (int n = 1; n <= 60; n++) {
            Due.is("38: " + n, x.tell(-n), n);
        }
        Due.is("38: the sixty-first", x.tell(0), Due.FULL);
        Due.is("38: sixty wait", x.count(5), 60);
    }

    private static void checkRefused() {
        LionShield x = new LionShield();
        x.tell(5);
        Due.is("39: no image", x.check(1), Due.NO);
        Due.is("39: none waits then", x.count(5), 0);
        x.tell(5);
        Due.is("39: BAD ahead of NO", x.check(0), Due.BAD);
        Due.is("39: none waits behind BAD", x.count(5), 0);
        x.keep();
        Due.is("39: 31", x.check(31), Due.BAD);
        Due.is("39: -1", x.check(-1), Due.BAD);
    }

    private static LionShield kept(int z) {
        LionShield x = new LionShield();
        x.seed(z);
        x.deal(4);
        x.person(0, -1, -1, 0, 0);
        x.person(0, -1, -1, 1, 0);
        x.set(4, 5, z % 2);
        x.fertile(60);
        x.keep();
        return x;
    }

    private static int[] yearsTold(int z, int n) {
        int[] told = new int[2 * n];
        for (int i = 0; i < n; i++) {
            LionShield x = kept(z);
            x.years(1 + i);
            told[2 * i] = x.count(0);
            for (int one = 0; one < x.count(0); one++) {
                told[2 * i + 1] += x.bears(one, 0);
            }
        }
        return told;
    }

    private static void tellAll(LionShield x, int[] numbers, int many) {
        for (int i = 0; i < many; i++) {
            x.tell(numbers[i]);
        }
    }

    private static void checkRight() {
        for (int z = 1; z <= 30; z++) {
            LionShield x = kept(z);
            tellAll(x, yearsTold(z, z), 2 * z);
            Due.is("39: as told, " + z, x.check(z), 0);
            Due.is("39: none waits then, " + z, x.count(5), 0);
            Due.is("39: nothing changes, " + z, x.count(1), 0);
        }
    }

    private static void checkWrong() {
        int[] right = yearsTold(5, 10);
        for (int at = 0; at < 20; at++) {
            LionShield x = kept(5);
            int was = right[at];
            right[at]++;
            tellAll(x, right, 20);
            Due.is("39: wrong at " + at, x.check(10), 1 + at);
            right[at] = was;
            tellAll(x, right, at);
            Due.is("39: missing at " + at, x.check(10), 1 + at);
            if (at % 2 == 0 && at > 0) {
                tellAll(x, right, at + 1);
                Due.is("39: one too many at " + at, x.check(at / 2), 1 + at);
            }
        }
    }

    private static void checkByTheImage() {
        LionShield x = kept(8);
        int[] right = yearsTold(8, 6);
        x.years(50);
        x.fertile(0);
        x.seed(1);
        x.set(4, 4, 7);
        Due.text(x, "join 0");
        tellAll(x, right, 12);
        Due.is("39: by the image, not by now", x.check(6), 0);
    }

    private static void checkNearTheLastYear() {
        LionShield x = new LionShield();
        for (int i = 0; i < 99; i++) {
            x.years(100);
        }
        x.years(97);
        x.person(0, -1, -1, 0, 0);
        x.keep();
        for (int i = 0; i < 2; i++) {
            x.tell(1);
            x.tell(64);
        }
        Due.is("39: two years are left", x.check(30), 0);
        for (int i = 0; i < 3; i++) {
            x.tell(1);
            x.tell(64);
        }
        Due.is("39: a third is too many", x.check(3), 5);
    }

    private static void keepAndBack() {
        LionShield x = new LionShield();
        Due.is("41: none", x.back(), Due.NO);
        x.person(1, -1, -1, 0, 1);
        x.person(2, -1, -1, 1, 2);
        x.set(0, 5, 9);
        x.fertile(44);
        x.seed(12);
        x.years(2);
        int z = x.count(7);
        int people = x.count(0);
        Due.text(x, "fee 1");
        Due.is("40: how many", x.keep(), people);
        for (int again = 0; again < 3; again++) {
            x.turns(0, 4);
            x.set(0, 4, 5);
            x.set(0, 5, 1);
            x.person(0, -1, -1, 0, 0);
            x.fertile(99);
            Due.text(x, "fee 2");
            Due.text(x, "join 2");
            x.years(9);
            x.tell(7);
            x.feed(1, 2, 3);
            x.sheet(2, 0, 3 + again);
            x.lay(3, 3, again);
            Due.is("41: how many", x.back(), people);
            Due.is("41: kind", x.told(0, 0), 1);
            Due.is("41: first", x.told(0, 4), 1);
            Due.is("41: barred", x.told(0, 5), 9);
            Due.is("41: people", x.count(0), people);
            Due.is("41: year", x.count(1), 2);
            Due.is("41: fertile", x.count(2), 44);
            Due.is("41: texts", x.count(4), 1);
            Due.is("41: z", x.count(7), z);
            Due.is("41: the text that counts", x.fee(), 1);
            Due.is("41: no other text", x.why(0), Due.NONE);
            Due.is("41: what waits stays", x.count(5), again + 1);
            Due.is("41: the tape stays", x.count(6), 12);
            Due.is("41: sheets stay", x.copy(2, 0, 2, 0, 3 + again), 3 + again);
            Due.is("41: slots stay", x.rest(3, 9), again);
            x.trim(0);
        }
        x.person(0, -1, -1, 0, 0);
        Due.is("40: kept anew", x.keep(), people + 1);
        Due.is("41: anew", x.back(), people + 1);
    }

    private static void count() {
        LionShield x = new LionShield();
        x.person(0, -1, -1, 0, 0);
        x.person(0, -1, -1, 1, 0);
        x.person(0, 0, -1, 1, 0);
        x.person(0, -1, 1, 1, 0);
        x.years(1);
        x.fertile(5);
        Due.text(x, "fee 1");
        x.tell(1);
        x.tell(2);
        x.feed(0, 0, 0);
        x.seed(-3);
        int[] due = {4, 1, 5, 3, 1, 2, 12, -3};
        for (int what = 0; what < 8; what++) {
            Due.is("42: count(" + what + ")", x.count(what), due[what]);
        }
        Due.is("42: 8", x.count(8), Due.BAD);
        Due.is("42: -1", x.count(-1), Due.BAD);
    }
}
