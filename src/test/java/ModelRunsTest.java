import java.util.ArrayDeque;
import java.util.ArrayList;
import java.util.Arrays;
import java.util.Deque;
import java.util.HashMap;
import java.util.List;
import java.util.Map;
import java.util.Random;
import java.util.TreeSet;

/** Runs of calls by lot, each answered by the class and by a slow model that is written another way. */
public final class ModelRunsTest {
    private static final int RUNS = 1500, CALLS = 512;
    /** Eight to feed 96 bytes, one to trim, one to read. */
    private static final int MOST_OF_A_TEXT = 10;

    public static void main(String[] args) {
        for (int run = 0; run < RUNS; run++) {
            oneRun(run);
        }
        Due.end();
    }

    private static void oneRun(int run) {
        Lot lot = new Lot(run);
        LionShield x = new LionShield();
        Model m = new Model();
        for (int i = 0; i < CALLS; i++) {
            if (lot.random.nextInt(14) == 0 && i + MOST_OF_A_TEXT < CALLS) {
                i += feedText(x, m, lot, run);
            }
            int call = lot.call();
            int[] a = new int[5];
            for (int k = 0; k < 5; k++) {
                a[k] = lot.argument(call, k, m);
            }
            Due.is("run " + run + ", call " + i + ": " + NAMES[call] + Arrays.toString(a), real(x, call, a), m.answer(call, a));
        }
    }

    private static int feedText(LionShield x, Model m, Lot lot, int run) {
        String text = lot.text();
        int calls = 0;
        int[] whole = new int[5];
        for (int i = 0; i < text.length(); i += 12) {
            int[] a = {Due.four(text, i), Due.four(text, i + 4), Due.four(text, i + 8), 0, 0};
            Due.is("run " + run + ": feed", real(x, FEED, a), m.answer(FEED, a));
            calls++;
        }
        int[] trim = {text.length(), 0, 0, 0, 0};
        Due.is("run " + run + ": trim", real(x, TRIM, trim), m.answer(TRIM, trim));
        Due.is("run " + run + ": text [" + text + "]", real(x, TEXT, whole), m.answer(TEXT, whole));
        return calls + 2;
    }

    static final String[] NAMES = {"person", "told", "bears", "as", "turns", "set", "fertile", "deal", "seed", "years",
        "alike", "land", "sixteenth", "from", "match", "repaint", "behind", "born", "gone", "spoon", "fee", "fine",
        "feed", "trim", "text", "textTold", "why", "sheet", "mark", "pour", "reads", "copy", "lay", "ask", "item",
        "rest", "tell", "check", "keep", "back", "count"};
    static final int FEED = 22, TRIM = 23, TEXT = 24;

    private static int real(LionShield x, int call, int[] a) {
        switch (call) {
            case 0: return x.person(a[0], a[1], a[2], a[3], a[4]);
            case 1: return x.told(a[0], a[1]);
            case 2: return x.bears(a[0], a[1]);
            case 3: return x.as(a[0], a[1]);
            case 4: return x.turns(a[0], a[1]);
            case 5: return x.set(a[0], a[1], a[2]);
            case 6: return x.fertile(a[0]);
            case 7: return x.deal(a[0]);
            case 8: return x.seed(a[0]);
            case 9: return x.years(a[0]);
            case 10: return x.alike(a[0], a[1]);
            case 11: return x.land(a[0]);
            case 12: return x.sixteenth(a[0]);
            case 13: return x.from(a[0], a[1]);
            case 14: return x.match(a[0], a[1], a[2]);
            case 15: return x.repaint();
            case 16: return x.behind(a[0], a[1]);
            case 17: return x.born();
            case 18: return x.gone(a[0], a[1]);
            case 19: return x.spoon(a[0], a[1]);
            case 20: return x.fee();
            case 21: return x.fine(a[0]);
            case 22: return x.feed(a[0], a[1], a[2]);
            case 23: return x.trim(a[0]);
            case 24: return x.text();
            case 25: return x.textTold(a[0], a[1]);
            case 26: return x.why(a[0]);
            case 27: return x.sheet(a[0], a[1], a[2]);
            case 28: return x.mark(a[0], a[1], a[2]);
            case 29: return x.pour(a[0]);
            case 30: return x.reads(a[0]);
            case 31: return x.copy(a[0], a[1], a[2], a[3], a[4]);
            case 32: return x.lay(a[0], a[1], a[2]);
            case 33: return x.ask(a[0], a[1]);
            case 34: return x.item(a[0], a[1]);
            case 35: return x.rest(a[0], a[1]);
            case 36: return x.tell(a[0]);
            case 37: return x.check(a[0]);
            case 38: return x.keep();
            case 39: return x.back();
            default: return x.count(a[0]);
        }
    }

    /** What is called, with which arguments. */
    private static final class Lot {
        final Random random;
        private final int births;

        Lot(int run) {
            random = new Random(run);
            births = run % 3;
        }

        int call() {
            int call = random.nextInt(NAMES.length);
            if (call == FEED || call == TRIM || call == TEXT) {
                return random.nextInt(4) == 0 ? call : 1;
            }
            // Lands fill quickly, so that runs of the same land go on for a while only where births are few.
            if (births == 0 && (call == 7 || call == 9) && random.nextInt(4) > 0) {
                return 0;
            }
            return call;
        }

        private static final String[] RANGES = {
            "6 P P 2 8", "Q 8", "Q 8", "Q 6", "Q 6", "Q S V", "101", "15", "Z", "H", "Q Q", "4", "8", "Q 8", "Q 8 2", "",
            "101 10", "", "61 2", "4 2", "", "Q", "B B B", "97", "", "15 2", "3", "4 T N", "4 25 M", "4", "4",
            "4 C 4 C C", "5 4 K", "5 6", "5 25", "5 Z", "W", "31", "", "", "8"};

        int argument(int call, int k, Model m) {
            String[] ranges = RANGES[call].split(" ");
            if (k >= ranges.length || ranges[k].isEmpty()) {
                return 0;
            }
            if (random.nextInt(60) == 0) {
                return random.nextInt(3) == 0 ? random.nextInt() : random.nextInt(300) - 100;
            }
            int n = m.now.people.size();
            switch (ranges[k].charAt(0)) {
                case 'P': return random.nextInt(n + 1) - 1;
                case 'Q': return random.nextInt(30) == 0 ? n : random.nextInt(Math.max(1, n));
                case 'S': return 4 + random.nextInt(2);
                case 'V': return random.nextInt(3) > 0 ? random.nextInt(8) : random.nextInt(258) - 1;
                case 'Z': return random.nextInt(3) == 0 ? random.nextInt(5) - 2 : random.nextInt();
                case 'H': return births == 0 ? random.nextInt(4) : random.nextInt(102);
                case 'B': return random.nextInt();
                case 'T': return random.nextInt(12) == 0 ? -1 : random.nextInt(2);
                case 'N': return random.nextInt(5) == 0 ? random.nextInt(28) - 2 : random.nextInt(15);
                case 'M': return new int[] {random.nextInt(10) - 1, random.nextInt(70), Due.NONE, random.nextInt(250000) - 125000}[random.nextInt(4)];
                case 'C': return random.nextInt(6) == 0 ? random.nextInt(27) - 1 : random.nextInt(5);
                case 'K': return random.nextInt(6) - 1;
                case 'W': return m.nextTold(random.nextInt(9) == 0 ? 1 : 0);
                default: return random.nextInt(Integer.parseInt(ranges[k]) + (random.nextInt(20) == 0 ? 1 : 0));
            }
        }

        String text() {
            int key = random.nextInt(3);
            StringBuilder s = new StringBuilder(random.nextInt(9) == 0 ? " " : "");
            s.append(new String[] {"join", "fee", "fine"}[key]).append(' ');
            expression(s, new String[] {"fmn", "yp", "ab"}[key], random.nextInt(5));
            while (random.nextInt(3) == 0 && s.length() > 0) {
                int at = random.nextInt(s.length());
                switch (random.nextInt(3)) {
                    case 0: s.deleteCharAt(at); break;
                    case 1: s.setCharAt(at, odd()); break;
                    default: s.insert(at, odd()); break;
                }
            }
            return s.length() > 96 ? s.substring(0, 96) : s.toString();
        }

        private char odd() {
            String all = "((()))!!!!+-*/<=>&|  0199fmnypabjoxA?";
            return random.nextInt(20) == 0 ? (char) random.nextInt(256) : all.charAt(random.nextInt(all.length()));
        }

        private void expression(StringBuilder s, String names, int depth) {
            int pieces = 1 + random.nextInt(4);
            boolean tested = false;
            for (int i = 0; i < pieces; i++) {
                if (i > 0) {
                    char sign = "++--**//<=>&|".charAt(random.nextInt(13));
                    if ("<=>".indexOf(sign) >= 0 && tested && random.nextInt(20) > 0) {
                        sign = '&';
                    }
                    tested = "<=>".indexOf(sign) >= 0 || tested && "&|".indexOf(sign) < 0;
                    s.append(sign);
                }
                piece(s, names, depth);
            }
        }

        private void piece(StringBuilder s, String names, int depth) {
            if (random.nextInt(12) == 0) {
                s.append(' ');
            }
            int what = random.nextInt(10);
            if (what < 2) {
                s.append("!!!!!!!!!".substring(random.nextInt(9)));
                piece(s, names, depth);
            } else if (what < 5 && depth > 0) {
                String many = random.nextInt(9) == 0 ? "((((((((((" : "(";
                s.append(many);
                expression(s, names, depth - 1);
                s.append(")".repeat(many.length()));
            } else if (what < 7) {
                s.append(random.nextInt(new int[] {10, 100, 10000, 12000}[random.nextInt(4)]));
            } else {
                s.append(names.charAt(random.nextInt(names.length())));
            }
        }
    }

    private record Person(int kind, int father, int mother, int sex, int first, int barred) {
    }

    /** A TEXT as its words and signs, worked out by splitting at the loosest sign. */
    private record Text(int key, List<String> words) {
        int leaves() {
            int n = 0;
            for (String w : words) {
                n += Character.isLetterOrDigit(w.charAt(0)) ? 1 : 0;
            }
            return n;
        }

        int give(Map<String, Integer> names) {
            return part(0, words.size(), names);
        }

        private int part(int from, int to, Map<String, Integer> names) {
            for (String signs : new String[] {"|", "&", "<=>", "+-", "*/"}) {
                int at = lastOutside(from, to, signs);
                if (at > from) {
                    return work(words.get(at).charAt(0), part(from, at, names), part(at + 1, to, names));
                }
            }
            String w = words.get(from);
            if (w.equals("!")) {
                return part(from + 1, to, names) == 0 ? 1 : 0;
            }
            if (w.equals("(")) {
                return part(from + 1, to - 1, names);
            }
            return names.containsKey(w) ? names.get(w) : Integer.parseInt(w);
        }

        private int lastOutside(int from, int to, String signs) {
            int open = 0;
            for (int i = to - 1; i >= from; i--) {
                String w = words.get(i);
                open += w.equals(")") ? 1 : w.equals("(") ? -1 : 0;
                if (open == 0 && signs.contains(w)) {
                    return i;
                }
            }
            return -1;
        }

        private static int work(char sign, int l, int r) {
            switch (sign) {
                case '|': return l != 0 | r != 0 ? 1 : 0;
                case '&': return l != 0 & r != 0 ? 1 : 0;
                case '<': return l < r ? 1 : 0;
                case '=': return l == r ? 1 : 0;
                case '>': return l > r ? 1 : 0;
                case '+': return l + r;
                case '-': return l - r;
                case '*': return l * r;
                default: return r == 0 ? 0 : (int) ((long) l / r);
            }
        }
    }

    /** Finds the FAULT by an automaton that knows what may come next, and keeps the words. */
    private static final class Automaton {
        final List<String> words = new ArrayList<>();
        int key = -1;
        private final String tape;
        private boolean pieceIsNext = true;
        private boolean tested = false;
        private int nots = 0;
        private final Deque<int[]> open = new ArrayDeque<>();
        private int notsBelow = 0;

        Automaton(String tape) {
            this.tape = tape;
        }

        int fault() {
            int at = 0;
            boolean wordAhead = false;
            while (at < tape.length()) {
                if (tape.charAt(at) == ' ') {
                    wordAhead = false;
                    at++;
                    continue;
                }
                int stop = at + 1;
                while (stop < tape.length() && sort(tape.charAt(at)) != 0 && sort(tape.charAt(at)) == sort(tape.charAt(stop))) {
                    stop++;
                }
                String w = tape.substring(at, stop);
                boolean isWord = sort(w.charAt(0)) != 0;
                if (isWord && wordAhead || !goesOn(w)) {
                    return at;
                }
                wordAhead = isWord;
                at = stop;
            }
            return key < 0 || pieceIsNext || !open.isEmpty() ? tape.length() : -1;
        }

        private static int sort(char c) {
            return c >= 'a' && c <= 'z' ? 1 : c >= '0' && c <= '9' ? 2 : 0;
        }

        private boolean goesOn(String w) {
            if (key < 0) {
                key = List.of("join", "fee", "fine").indexOf(w);
                return key >= 0;
            }
            words.add(w);
            return pieceIsNext ? piece(w) : behindPiece(w);
        }

        private boolean piece(String w) {
            if (w.equals("!")) {
                nots++;
                return nots + notsBelow <= 8;
            }
            if (w.equals("(")) {
                open.push(new int[] {tested ? 1 : 0, nots});
                notsBelow += nots;
                nots = 0;
                tested = false;
                return open.size() <= 8;
            }
            nots = 0;
            pieceIsNext = false;
            String names = new String[] {"fmn", "yp", "ab"}[key];
            return sort(w.charAt(0)) == 2 ? w.length() <= 4 : w.length() == 1 && names.contains(w);
        }

        private boolean behindPiece(String w) {
            if (w.equals(")")) {
                if (open.isEmpty()) {
                    return false;
                }
                int[] was = open.pop();
                tested = was[0] == 1;
                notsBelow -= was[1];
                return true;
            }
            pieceIsNext = true;
            if ("|&".contains(w)) {
                tested = false;
                return true;
            }
            if ("<=>".contains(w)) {
                boolean first = !tested;
                tested = true;
                return first;
            }
            return w.length() == 1 && "+-*/".contains(w);
        }
    }

    private static final class State {
        final List<Person> people = new ArrayList<>();
        final List<Text> texts = new ArrayList<>();
        int fertile = 30;
        int year = 0;
        int z = 1;

        State again() {
            State s = new State();
            s.people.addAll(people);
            s.texts.addAll(texts);
            s.fertile = fertile;
            s.year = year;
            s.z = z;
            return s;
        }

        int draw() {
            z = (int) ((long) z * 1103515245L + 12345L);
            return z >>> 8;
        }

        List<Integer> ofSex(int sex) {
            List<Integer> all = new ArrayList<>();
            for (int i = 0; i < people.size(); i++) {
                if (people.get(i).sex() == sex) {
                    all.add(i);
                }
            }
            return all;
        }

        boolean year() {
            boolean fertileYear = draw() % 100 < fertile;
            year++;
            List<Integer> men = ofSex(0);
            List<Integer> women = ofSex(1);
            if (!fertileYear || people.size() == 14 || men.isEmpty() || women.isEmpty()) {
                return false;
            }
            int father = men.get(draw() % men.size());
            int mother = women.get(draw() % women.size());
            int sex = draw() % 2;
            int kind = draw() % 6;
            people.add(new Person(kind, father, mother, sex, draw() % 8, 0));
            return true;
        }

        boolean heiress(int one) {
            Person p = people.get(one);
            return p.sex() == 1 && (p.father() < 0 || people.stream().noneMatch(q -> q.sex() == 0 && q.father() == p.father()));
        }

        Text last(int key) {
            Text found = null;
            for (Text t : texts) {
                found = t.key() == key ? t : found;
            }
            return found;
        }

        int join(int father, int mother, int charge, Map<Integer, Integer> known) {
            int f = unbarred(father, charge, known);
            int m = mother >= 0 && heiress(mother) ? unbarred(mother, charge, known) : f;
            Text law = last(0);
            int given = law == null ? (f + m) / 2 : law.give(Map.of("f", f, "m", m, "n", charge));
            return given < 0 ? 0 : given > 64 ? 64 : given;
        }

        int unbarred(int one, int charge, Map<Integer, Integer> known) {
            Integer k = known.get(one * 8 + charge);
            if (k == null) {
                k = asKind(one, people.get(one).kind(), charge, known);
                known.put(one * 8 + charge, k);
            }
            return k;
        }

        private int asKind(int one, int kind, int charge, Map<Integer, Integer> known) {
            Person p = people.get(one);
            switch (kind) {
                case 0: return p.father() < 0 ? (p.first() == charge ? 64 : 0) : join(p.father(), p.mother(), charge, known);
                case 1: return Math.max(0, asKind(one, 0, charge, known) - 2);
                case 2: return p.first() == charge ? 64 : asKind(one, 0, charge, known);
                case 3: return asKind(one, 1, charge, known) / 2;
                case 4: return p.first() == charge ? 8 : 0;
                default: return p.mother() < 0 ? 0 : unbarred(p.mother(), charge, known);
            }
        }

        List<List<Integer>> shields() {
            Map<Integer, Integer> known = new HashMap<>();
            List<List<Integer>> all = new ArrayList<>();
            for (int one = 0; one < people.size(); one++) {
                List<Integer> shield = new ArrayList<>();
                for (int charge = 0; charge < 8; charge++) {
                    boolean bar = (people.get(one).barred() & 1 << charge) != 0;
                    shield.add(bar ? 0 : unbarred(one, charge, known));
                }
                all.add(shield);
            }
            return all;
        }

        int clashes() {
            List<List<Integer>> all = shields();
            int n = 0;
            for (int i = 0; i < all.size(); i++) {
                for (int j = 0; j < i; j++) {
                    n += all.get(i).equals(all.get(j)) ? 1 : 0;
                }
            }
            return n;
        }

        int together(int charge) {
            return shields().stream().mapToInt(s -> s.get(charge)).sum();
        }

        void change(int one, int kind, int first, int barred) {
            Person p = people.get(one);
            people.set(one, new Person(kind, p.father(), p.mother(), p.sex(), first, barred));
        }
    }

    private record Sheet(int sort, Integer[] places) {
    }

    private static final class Model {
        State now = new State();
        private State image = null;
        private String tape = "";
        private final Sheet[] sheets = new Sheet[4];
        private final Object[] slots = new Object[5];
        private final List<Integer> waiting = new ArrayList<>();

        /** What would be right to tell next (so that check is asked for more than what is wrong at once). */
        int nextTold(int wrong) {
            if (image == null) {
                return wrong;
            }
            State s = image.again();
            for (int i = 0; i <= waiting.size() / 2; i++) {
                s.year();
            }
            return wrong + (waiting.size() % 2 == 0 ? s.people.size() : s.together(0));
        }

        private boolean one(int i) {
            return in(i, now.people.size());
        }

        private static boolean in(int i, int n) {
            return i >= 0 && i < n;
        }

        private static int worth(Person p, int kind) {
            switch (kind) {
                case 0: return 10 * p.first();
                case 1: return worth(p, 0) + 6;
                case 2: return 99 - worth(p, 0);
                case 3: return 2 * worth(p, 1);
                case 4: return worth(p, 2) - 8;
                default: return 5;
            }
        }

        private static boolean under(int kind, int wanted) {
            return kind == wanted || wanted == 0 || wanted == 1 && kind == 3 || wanted == 2 && kind == 4;
        }

        int answer(int call, int[] a) {
            return call < 10 ? people(call, a) : call < 22 ? shields(call, a) : call < 27 ? texts(call, a) : call < 36 ? rows(call, a) : images(call, a);
        }

        private int people(int call, int[] a) {
            Person p = one(a[0]) ? now.people.get(a[0]) : null;
            if (call >= 1 && call <= 5 && p == null) {
                return Due.BAD;
            }
            switch (call) {
                case 0: return person(a);
                case 1: return !in(a[1], 8) ? Due.BAD
                    : new int[] {p.kind(), p.father(), p.mother(), p.sex(), p.first(), p.barred(), now.heiress(a[0]) ? 1 : 0, worth(p, p.kind())}[a[1]];
                case 2: return in(a[1], 8) ? now.shields().get(a[0]).get(a[1]) : Due.BAD;
                case 3: return !in(a[1], 6) ? Due.BAD : under(p.kind(), a[1]) ? p.first() : Due.KIND;
                case 4:
                    if (!in(a[1], 6)) {
                        return Due.BAD;
                    }
                    now.change(a[0], a[1], p.first(), p.barred());
                    return p.kind();
                case 5:
                    if (a[1] == 4 && in(a[2], 8)) {
                        now.change(a[0], p.kind(), a[2], p.barred());
                        return p.first();
                    }
                    if (a[1] == 5 && in(a[2], 256)) {
                        now.change(a[0], p.kind(), p.first(), a[2]);
                        return p.barred();
                    }
                    return Due.BAD;
                case 6: {
                    int was = now.fertile;
                    now.fertile = in(a[0], 101) ? a[0] : was;
                    return in(a[0], 101) ? was : Due.BAD;
                }
                case 7: return deal(a[0]);
                case 8: {
                    int was = now.z;
                    now.z = a[0];
                    return was;
                }
                default: return years(a[0]);
            }
        }

        private int person(int[] a) {
            boolean father = a[1] == -1 || one(a[1]) && now.people.get(a[1]).sex() == 0;
            boolean mother = a[2] == -1 || one(a[2]) && now.people.get(a[2]).sex() == 1;
            if (!in(a[0], 6) || !father || !mother || !in(a[3], 2) || !in(a[4], 8)) {
                return Due.BAD;
            }
            if (now.people.size() == 14) {
                return Due.FULL;
            }
            now.people.add(new Person(a[0], a[1], a[2], a[3], a[4], 0));
            return now.people.size() - 1;
        }

        private int deal(int n) {
            if (n < 1 || n > 14) {
                return Due.BAD;
            }
            int many = Math.min(n, 14 - now.people.size());
            for (int i = 0; i < many; i++) {
                int kind = now.draw() % 6;
                int sex = now.draw() % 2;
                now.people.add(new Person(kind, -1, -1, sex, now.draw() % 8, 0));
            }
            return many;
        }

        private int years(int n) {
            if (n < 1 || n > 100) {
                return Due.BAD;
            }
            int was = now.people.size();
            for (int i = 0; i < n && now.year < 9999; i++) {
                now.year();
            }
            return now.people.size() - was;
        }

        private int shields(int call, int[] a) {
            switch (call) {
                case 10: return !one(a[0]) || !one(a[1]) || a[0] == a[1] ? Due.BAD : now.shields().get(a[0]).equals(now.shields().get(a[1])) ? 1 : 0;
                case 11: return land(a[0]);
                case 12: return in(a[0], 8) ? bits(a[0]) : Due.BAD;
                case 13: return one(a[0]) && in(a[1], 8) ? from(a[0], a[1]) : Due.BAD;
                case 14: return one(a[0]) && in(a[1], 8) && in(a[2], 2) ? match(a[0], a[1])[a[2]] : Due.BAD;
                case 15: return repaint();
                case 16: return in(a[0], 101) && in(a[1], 10) ? behind(a[0], a[1]) : Due.BAD;
                case 17: return born();
                case 18: return in(a[0], 61) && in(a[1], 2) ? gone(a[0])[a[1]] : Due.BAD;
                case 19: return !in(a[0], 4) || !in(a[1], 2) ? Due.BAD : sheets[a[0]] == null ? Due.NOTHING : spoon(sheets[a[0]])[a[1]];
                case 20: {
                    int n = now.people.size();
                    return now.last(1) == null ? n : now.last(1).give(Map.of("y", now.year, "p", n));
                }
                default: {
                    if (!one(a[0])) {
                        return Due.BAD;
                    }
                    Person p = now.people.get(a[0]);
                    int bars = Integer.toBinaryString(p.barred()).replace("0", "").length();
                    return now.last(2) == null ? p.first() : now.last(2).give(Map.of("a", p.first(), "b", bars));
                }
            }
        }

        private int land(int what) {
            if (what == 3) {
                int set = 0;
                for (int i : now.ofSex(1)) {
                    set += now.heiress(i) ? 1 << i : 0;
                }
                return set;
            }
            return what == 0 ? now.clashes() : what == 1 ? now.ofSex(0).size() : what == 2 ? now.ofSex(1).size() : Due.BAD;
        }

        private int bits(int charge) {
            int set = 0;
            for (int i = 0; i < now.people.size(); i++) {
                set += now.shields().get(i).get(charge) >= 4 ? 1 << i : 0;
            }
            return set;
        }

        private int from(int one, int charge) {
            TreeSet<Integer> found = new TreeSet<>();
            TreeSet<Integer> todo = new TreeSet<>(List.of(one));
            while (!todo.isEmpty()) {
                int i = todo.pollFirst();
                Person p = now.people.get(i);
                if (p.father() >= 0) {
                    todo.add(p.father());
                } else if (p.first() == charge) {
                    found.add(i);
                }
                if (p.mother() >= 0) {
                    todo.add(p.mother());
                }
            }
            return found.isEmpty() ? Due.NONE : found.first();
        }

        private int[] match(int one, int charge) {
            int[] best = {Due.NONE, Due.NONE};
            boolean he = now.people.get(one).sex() == 0;
            for (int other : now.ofSex(he ? 1 : 0)) {
                int parts = now.join(he ? one : other, he ? other : one, charge, new HashMap<>());
                if (best[0] == Due.NONE || parts > best[1]) {
                    best = new int[] {other, parts};
                }
            }
            return best;
        }

        private int repaint() {
            int fewest = now.clashes();
            int best = Due.NONE;
            for (int key = 0; key < now.people.size() * 10; key++) {
                if (key % 10 < 8 && now.people.get(key / 10).father() < 0) {
                    State s = now.again();
                    Person p = s.people.get(key / 10);
                    s.change(key / 10, p.kind(), key % 10, p.barred());
                    int clashes = s.clashes();
                    if (clashes < fewest) {
                        fewest = clashes;
                        best = key;
                    }
                }
            }
            return best;
        }

        private State later(int n) {
            State s = now.again();
            for (int i = 0; i < n; i++) {
                s.year();
            }
            return s;
        }

        private int behind(int n, int what) {
            State s = later(n);
            return what == 0 ? s.people.size() : what == 1 ? s.clashes() : s.together(what - 2);
        }

        private int born() {
            for (int n = 1; n <= 200; n++) {
                if (later(n).people.size() > now.people.size()) {
                    return n;
                }
            }
            return Due.NONE;
        }

        private int[] gone(int n) {
            List<List<Integer>> all = later(n).shields();
            int[] best = {0, 99};
            for (int c = 7; c >= 0; c--) {
                int charge = c;
                int bear = (int) all.stream().filter(s -> s.get(charge) > 0).count();
                best = bear <= best[1] ? new int[] {c, bear} : best;
            }
            return best;
        }

        private int[] spoon(Sheet sheet) {
            int[] best = {Due.NONE, Due.NONE};
            List<List<Integer>> all = now.shields();
            for (int one = all.size() - 1; one >= 0; one--) {
                int apart = 0;
                for (int c = 0; c < Math.min(8, sheet.places().length); c++) {
                    apart += sheet.places()[c] == null ? 0 : Math.abs(all.get(one).get(c) - sheet.places()[c]);
                }
                best = best[0] == Due.NONE || apart <= best[1] ? new int[] {one, apart} : best;
            }
            return best;
        }

        private int texts(int call, int[] a) {
            switch (call) {
                case 22: {
                    if (tape.length() + 12 > 96) {
                        return Due.FULL;
                    }
                    StringBuilder s = new StringBuilder(tape);
                    for (int i = 0; i < 12; i++) {
                        s.append((char) (a[i / 4] >> 24 - i % 4 * 8 & 255));
                    }
                    tape = s.toString();
                    return tape.length();
                }
                case 23:
                    if (a[0] < 0 || a[0] > tape.length()) {
                        return Due.BAD;
                    }
                    tape = tape.substring(0, a[0]);
                    return a[0];
                case 24: {
                    Automaton automaton = new Automaton(tape);
                    int fault = automaton.fault();
                    tape = "";
                    if (fault >= 0) {
                        return -100 - fault;
                    }
                    if (now.texts.size() == 14) {
                        return Due.FULL;
                    }
                    now.texts.add(new Text(automaton.key, automaton.words));
                    return now.texts.size() - 1;
                }
                case 25: {
                    if (!in(a[0], now.texts.size()) || !in(a[1], 2)) {
                        return Due.BAD;
                    }
                    Text t = now.texts.get(a[0]);
                    return a[1] == 0 ? t.key() : t.leaves();
                }
                default: {
                    if (!in(a[0], 3)) {
                        return Due.BAD;
                    }
                    return now.last(a[0]) == null ? Due.NONE : lastIndex(now.last(a[0]));
                }
            }
        }

        private int lastIndex(Text text) {
            for (int i = 0; i < now.texts.size(); i++) {
                if (now.texts.get(i) == text) {
                    return i;
                }
            }
            return -1;
        }

        private int rows(int call, int[] a) {
            if (call >= 32) {
                return slots(call, a);
            }
            if (!in(a[0], 4) || call == 31 && !in(a[2], 4)) {
                return Due.BAD;
            }
            if (call == 27) {
                return sheet(a);
            }
            Sheet s = sheets[a[0]];
            if (s == null || call == 31 && sheets[a[2]] == null) {
                return Due.NOTHING;
            }
            switch (call) {
                case 28: return mark(s, a[1], a[2]);
                case 29: {
                    int n = 0;
                    for (int i = 0; i < Math.min(s.places().length, now.people.size()); i++) {
                        if (s.places()[i] != null) {
                            Person p = now.people.get(i);
                            int v = Math.max(0, Math.min(7, s.places()[i]));
                            n += p.first() == v ? 0 : 1;
                            now.change(i, p.kind(), v, p.barred());
                        }
                    }
                    return n;
                }
                case 30:
                    for (int i = 0; i < s.places().length; i++) {
                        if (s.places()[i] != null && (!one(i) || now.people.get(i).first() != s.places()[i])) {
                            return i;
                        }
                    }
                    return Due.NONE;
                default: return copy(s, sheets[a[2]], a);
            }
        }

        private int sheet(int[] a) {
            if (a[1] < -1 || a[1] > 1 || a[1] >= 0 && a[2] > 24) {
                return Due.BAD;
            }
            if (a[1] == -1) {
                sheets[a[0]] = null;
                return 0;
            }
            if (a[2] < 0) {
                return Due.SIZE;
            }
            Integer[] places = new Integer[a[2]];
            Arrays.fill(places, 0);
            sheets[a[0]] = new Sheet(a[1], places);
            return a[2];
        }

        private int mark(Sheet s, int place, int v) {
            if (!in(place, s.places().length)) {
                return Due.INDEX;
            }
            if (s.sort() == 0 && v == Due.NONE) {
                return Due.KIND;
            }
            if (s.sort() == 1 && v != Due.NONE && Math.abs((long) v) > 99999) {
                return Due.BAD;
            }
            s.places()[place] = v == Due.NONE ? null : s.sort() == 0 ? (int) (short) v : v;
            return 1;
        }

        private int copy(Sheet from, Sheet to, int[] a) {
            if (from.sort() != to.sort()) {
                return Due.KIND;
            }
            long end = (long) a[1] + a[4];
            long endTo = (long) a[3] + a[4];
            if (a[1] < 0 || a[3] < 0 || a[4] < 0 || end > from.places().length || endTo > to.places().length) {
                return Due.INDEX;
            }
            Integer[] were = from.places().clone();
            for (int i = 0; i < a[4]; i++) {
                to.places()[a[3] + i] = were[a[1] + i];
            }
            return a[4];
        }

        private int slots(int call, int[] a) {
            if (!in(a[0], 5) || call == 33 && !in(a[1], 6)) {
                return Due.BAD;
            }
            Object held = slots[a[0]];
            if (call == 32) {
                return lay(held, a);
            }
            if (held == null) {
                return Due.NOTHING;
            }
            switch (call) {
                case 33: return held instanceof Person p && under(p.kind(), a[1]) ? worth(p, p.kind()) : Due.KIND;
                case 34: {
                    if (!(held instanceof Sheet s)) {
                        return Due.KIND;
                    }
                    if (!in(a[1], s.places().length)) {
                        return Due.INDEX;
                    }
                    return s.places()[a[1]] == null ? Due.KIND : s.places()[a[1]];
                }
                default:
                    if (!(held instanceof Integer v)) {
                        return Due.KIND;
                    }
                    return a[1] == 0 ? Due.NO : (int) ((long) v % a[1]);
            }
        }

        private int lay(Object held, int[] a) {
            if (!in(a[1], 4) || a[1] == 1 && !one(a[2]) || a[1] == 2 && !in(a[2], 4)) {
                return Due.BAD;
            }
            if (a[1] == 2 && sheets[a[2]] == null) {
                return Due.NOTHING;
            }
            switch (a[1]) {
                case 0: slots[a[0]] = null; break;
                case 1: slots[a[0]] = now.people.get(a[2]); break;
                case 2: slots[a[0]] = new Sheet(sheets[a[2]].sort(), sheets[a[2]].places().clone()); break;
                default: slots[a[0]] = a[2]; break;
            }
            return held == null ? 0 : held instanceof Person ? 1 : held instanceof Sheet ? 2 : 3;
        }

        private int images(int call, int[] a) {
            switch (call) {
                case 36:
                    if (waiting.size() == 60) {
                        return Due.FULL;
                    }
                    waiting.add(a[0]);
                    return waiting.size();
                case 37: return check(a[0]);
                case 38:
                    image = now.again();
                    return now.people.size();
                case 39:
                    if (image == null) {
                        return Due.NO;
                    }
                    now = image.again();
                    return now.people.size();
                default:
                    return !in(a[0], 8) ? Due.BAD : new int[] {now.people.size(), now.year, now.fertile,
                        (int) now.people.stream().filter(p -> p.father() < 0).count(), now.texts.size(), waiting.size(), tape.length(), now.z}[a[0]];
            }
        }

        private int check(int n) {
            List<Integer> told = new ArrayList<>(waiting);
            waiting.clear();
            if (n < 1 || n > 30) {
                return Due.BAD;
            }
            if (image == null) {
                return Due.NO;
            }
            List<Integer> due = new ArrayList<>();
            State s = image.again();
            for (int i = 0; i < n && s.year < 9999; i++) {
                s.year();
                due.add(s.people.size());
                due.add(s.together(0));
            }
            for (int i = 0; i < Math.max(due.size(), told.size()); i++) {
                if (i >= due.size() || i >= told.size() || !due.get(i).equals(told.get(i))) {
                    return 1 + i;
                }
            }
            return 0;
        }
    }
}
