import java.lang.reflect.Constructor;
import java.lang.reflect.Field;
import java.lang.reflect.Method;
import java.lang.reflect.Modifier;
import java.nio.charset.StandardCharsets;
import java.nio.file.Files;
import java.nio.file.Path;
import java.util.Arrays;
import java.util.List;
import java.util.Map;
import java.util.Set;
import java.util.TreeMap;
import java.util.TreeSet;
import java.util.regex.Matcher;
import java.util.regex.Pattern;

/** The public face, to the letter, and those rules of LANGUAGE.md that can be looked for. */
public final class LanguageTest {
    private static final String[] CALLS = {"person 5", "told 2", "bears 2", "as 2", "turns 2", "set 3", "fertile 1",
        "deal 1", "seed 1", "years 1", "alike 2", "land 1", "sixteenth 1", "from 2", "match 3", "repaint 0", "behind 2",
        "born 0", "gone 2", "spoon 2", "fee 0", "fine 1", "feed 3", "trim 1", "text 0", "textTold 2", "why 1", "sheet 3",
        "mark 3", "pour 1", "reads 1", "copy 5", "lay 3", "ask 2", "item 2", "rest 2", "tell 1", "check 1", "keep 0",
        "back 0", "count 1"};
    private static final String[] CONSTANTS = {"BAD", "NO", "FULL", "NONE", "NOTHING", "KIND", "INDEX", "SIZE"};
    private static final int[] VALUES = {Due.BAD, Due.NO, Due.FULL, Due.NONE, Due.NOTHING, Due.KIND, Due.INDEX, Due.SIZE};

    public static void main(String[] args) throws Exception {
        face();
        constants();
        classesInside();
        String source = Files.readString(Path.of("src/main/java/LionShield.java"), StandardCharsets.ISO_8859_1);
        Due.is("signs outside ASCII", source.chars().filter(c -> c > 126).count(), 0);
        String code = bare(source);
        words(code);
        methodsStayShort(code);
        callsStayFlat(code);
        Due.end();
    }

    private static void face() {
        Class<LionShield> c = LionShield.class;
        Due.is("public final", c.getModifiers(), Modifier.PUBLIC | Modifier.FINAL);
        Constructor<?>[] made = c.getDeclaredConstructors();
        Due.is("one constructor", made.length, 1);
        Due.is("it is public", made[0].getModifiers(), Modifier.PUBLIC);
        Due.is("it takes nothing", made[0].getParameterCount(), 0);
        Set<String> wanted = new TreeSet<>(Arrays.asList(CALLS));
        Set<String> names = new TreeSet<>();
        for (String call : CALLS) {
            names.add(call.split(" ")[0]);
        }
        int found = 0;
        for (Method m : c.getDeclaredMethods()) {
            if (Modifier.isPrivate(m.getModifiers())) {
                Due.is("private " + m.getName() + " bears a public name", names.contains(m.getName()) ? 1 : 0, 0);
                continue;
            }
            found++;
            Due.is("a method of the face: " + m, wanted.contains(m.getName() + " " + m.getParameterCount()) ? 1 : 0, 1);
            Due.is("public alone: " + m, m.getModifiers(), Modifier.PUBLIC);
            Due.is("gives int: " + m, m.getReturnType() == int.class ? 1 : 0, 1);
            for (Class<?> type : m.getParameterTypes()) {
                Due.is("takes int: " + m, type == int.class ? 1 : 0, 1);
            }
        }
        Due.is("all methods of the face", found, CALLS.length);
        for (Class<?> inside : c.getDeclaredClasses()) {
            for (Method m : inside.getDeclaredMethods()) {
                Due.is("inside bears a public name: " + m, names.contains(m.getName()) ? 1 : 0, 0);
            }
        }
    }

    private static void constants() throws IllegalAccessException {
        List<String> names = Arrays.asList(CONSTANTS);
        int found = 0;
        for (Field f : LionShield.class.getDeclaredFields()) {
            if (Modifier.isPrivate(f.getModifiers())) {
                Due.is("static is final: " + f, Modifier.isStatic(f.getModifiers()) && !Modifier.isFinal(f.getModifiers()) ? 1 : 0, 0);
                continue;
            }
            found++;
            int at = names.indexOf(f.getName());
            Due.is("a constant of the face: " + f, at >= 0 ? 1 : 0, 1);
            Due.is("public static final: " + f, f.getModifiers(), Modifier.PUBLIC | Modifier.STATIC | Modifier.FINAL);
            Due.is(f.getName(), f.getInt(null), VALUES[Math.max(0, at)]);
        }
        Due.is("all constants", found, CONSTANTS.length);
    }

    private static void classesInside() {
        Class<?>[] inside = LionShield.class.getDeclaredClasses();
        Due.is("at most twelve classes", inside.length + 1 <= 12 ? 1 : 0, 1);
        for (Class<?> c : inside) {
            Due.is("static: " + c, Modifier.isStatic(c.getModifiers()) ? 1 : 0, 1);
            Due.is("not public or protected: " + c, c.getModifiers() & (Modifier.PUBLIC | Modifier.PROTECTED), 0);
            int own = 0;
            for (Field f : c.getDeclaredFields()) {
                boolean isStatic = Modifier.isStatic(f.getModifiers());
                own += isStatic ? 0 : 1;
                Due.is("static is final: " + f, isStatic && !Modifier.isFinal(f.getModifiers()) ? 1 : 0, 0);
            }
            Due.is("at most twenty fields: " + c, own <= 20 ? 1 : 0, 1);
        }
    }

    /** The source without comments and texts. */
    private static String bare(String source) {
        return source.replaceAll("(?s)/\\*.*?\\*/", " ").replaceAll("//[^\n]*", " ")
            .replaceAll("\"(\\\\.|[^\"\\\\])*\"", "\"\"").replaceAll("'(\\\\.|[^'\\\\])'", "' '");
    }

    private static void words(String code) {
        String[] ruledOut = {"\\bthrow\\b", "\\btry\\b", "\\bcatch\\b", "\\bsynchronized\\b", "\\bassert\\b", "->", "::",
            "\\bimport\\b", "\\bpackage\\b", "\\bextends\\s+Exception\\b", "\\bThread\\b", "\\bRandom\\b", "\\bException\\b",
            "\\bhashCode\\b", "\\btoString\\b", "Exact\\b", "\\bNaN\\b", "\\bSystem\\.(?!arraycopy\\b)", "\\bstatic\\s*\\{",
            "\\bwhile\\s*\\(\\s*true\\b", "\\bfor\\s*\\(\\s*;\\s*;", "\\bvar\\b", "\\bprotected\\b"};
        for (String word : ruledOut) {
            Matcher m = Pattern.compile(word).matcher(code);
            Due.is("ruled out: " + word, m.find() ? 1 : 0, 0);
        }
    }

    private static void methodsStayShort(String code) {
        String[] lines = code.split("\n");
        Pattern head = Pattern.compile("^( {4}| {8})(?! )[\\w\\[\\] ]+\\(([^)]*)\\) \\{$");
        int start = -1;
        String indent = "";
        for (int i = 0; i < lines.length; i++) {
            Matcher m = head.matcher(lines[i]);
            if (m.find()) {
                start = i;
                indent = m.group(1);
                Due.is("at most seven parameters: " + lines[i].trim(), m.group(2).split(",").length <= 7 ? 1 : 0, 1);
            } else if (start >= 0 && lines[i].equals(indent + "}")) {
                Due.is("at most sixty lines: " + lines[start].trim(), i - start + 1 <= 60 ? 1 : 0, 1);
                start = -1;
            }
        }
    }

    /** By names alone, so that methods of one name count as one: what is found is never less than what can be. */
    private static void callsStayFlat(String code) {
        Map<String, Set<String>> calls = callsByName(code);
        Set<String> round = new TreeSet<>();
        int deepest = 0;
        for (String name : calls.keySet()) {
            deepest = Math.max(deepest, depth(name, calls, new TreeSet<>(), round));
        }
        Due.is("calls go " + deepest + " deep, eight at most", deepest <= 8 ? 1 : 0, 1);
        Due.is("only the reader calls itself: " + round, round.equals(Set.of("readLevel", "readPiece")) ? 1 : 0, 1);
    }

    private static Map<String, Set<String>> callsByName(String code) {
        Map<String, Set<String>> calls = new TreeMap<>();
        Matcher method = Pattern.compile("(?ms)^( {4}| {8})(?! )[\\w\\[\\] ]*?(\\w+)\\([^)]*\\) \\{$(.*?)^\\1\\}$").matcher(code);
        while (method.find()) {
            Matcher call = Pattern.compile("(\\w+)\\(").matcher(method.group(3));
            Set<String> called = calls.computeIfAbsent(method.group(2), name -> new TreeSet<>());
            while (call.find()) {
                called.add(call.group(1));
            }
        }
        return calls;
    }

    /** The longest way down from a method, each method once; those from which a way leads round are told. */
    private static int depth(String name, Map<String, Set<String>> calls, Set<String> open, Set<String> round) {
        if (!calls.containsKey(name)) {
            return 0;
        }
        if (!open.add(name)) {
            round.add(name);
            return 0;
        }
        int deepest = 0;
        for (String called : calls.get(name)) {
            deepest = Math.max(deepest, depth(called, calls, open, round));
        }
        open.remove(name);
        return deepest + 1;
    }
}
