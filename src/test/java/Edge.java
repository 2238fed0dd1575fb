import java.io.IOException;
import java.nio.charset.StandardCharsets;
import java.nio.file.Files;
import java.nio.file.Path;
import java.util.List;
import java.util.function.ToIntFunction;
import java.util.regex.Matcher;
import java.util.regex.Pattern;

/**
 * What the tests of edges share. Each is headed by the document's own words, so that those words of the document that
 * name an edge and head no test are found.
 */
final class Edge {
    /** A call with one argument that is tried at its ends. */
    interface Call {
        int on(LionShield x, int v);
    }

    private static final int PROMISES = 42;
    private static final Path DOC = Path.of("../shared/DOC.md");
    /** What names an edge, in the terms and in a promise. */
    private static final Pattern EDGE_OF_TERMS = Pattern.compile("\\d+ \\.\\. \\d+|at most|at least|at first|\\bcut|wrap"
        + "|by 0|ninth|\\d to \\d|of several|too soon|NONE|without|is none|MISSING|nothing|below 0|no such place");
    private static final Pattern EDGE_OF_PROMISE = Pattern.compile(
        "\\d+ \\.\\. \\d+|\\b(BAD|NO|FULL|NONE|NOTHING|INDEX|SIZE)\\b|KIND:|FAULT|no more than|as many as|fewer");

    private static final String[] SAYS = read();
    private static final boolean[][] TESTED = new boolean[PROMISES + 1][];
    private static String head = "";

    private Edge() {
    }

    /** What the document says, by promise; its terms, and what stands ahead of them, are 0. */
    private static String[] read() {
        try {
            String[] parts = Files.readString(DOC, StandardCharsets.UTF_8).split("(?m)^## (Promise \\d+:|Not promised)");
            return parts.length == PROMISES + 2 ? parts : null;
        } catch (IOException e) {
            System.out.println("no document is found: what it says is not looked for");
            return null;
        }
    }

    /** Heads what follows with the words of a promise, or of the terms (0). */
    static void says(int promise, String words) {
        head = (promise == 0 ? "terms" : String.valueOf(promise)) + " [" + words + "]";
        if (SAYS == null) {
            return;
        }
        int at = SAYS[promise].indexOf(words);
        Due.is("the document says " + head, at >= 0 ? 1 : 0, 1);
        if (TESTED[promise] == null) {
            TESTED[promise] = new boolean[SAYS[promise].length()];
        }
        for (int i = Math.max(0, at); at >= 0 && i < at + words.length(); i++) {
            TESTED[promise][i] = true;
        }
    }

    /** Each place of the document that names an edge is to stand in words that head a test. */
    static void nothingIsLeftOut() {
        for (int promise = 0; SAYS != null && promise <= PROMISES; promise++) {
            String said = SAYS[promise];
            int from = promise == 0 ? said.indexOf("## Terms") : 0;
            Due.is("promise " + promise + " heads a test", TESTED[promise] == null ? 0 : 1, 1);
            Matcher m = (promise == 0 ? EDGE_OF_TERMS : EDGE_OF_PROMISE).matcher(said);
            while (TESTED[promise] != null && m.find()) {
                if (m.start() >= from && !TESTED[promise][m.start()]) {
                    String near = said.substring(Math.max(0, m.start() - 40), Math.min(said.length(), m.end() + 30));
                    Due.is("promise " + promise + " has a test for .. " + near.replace('\n', ' ') + " ..", 0, 1);
                }
            }
        }
    }

    static void is(String call, long got, long want) {
        Due.is(head + " " + call, got, want);
    }

    /** The values of an argument that are taken, all with the same answer. */
    static void taken(String what, State state, Call call, int due, int... values) {
        for (int v : values) {
            is(state.name + ": " + what + " " + v, call.on(state.make(), v), due);
        }
    }

    /** The first values beyond both ends, and the farthest, are refused and change nothing. */
    static void beyond(String what, State state, Call call, int least, int most, int due) {
        for (int v : new int[] {least - 1, most + 1, Integer.MIN_VALUE, Integer.MAX_VALUE}) {
            refused(what + " " + v, state, x -> call.on(x, v), due);
        }
    }

    /** A call that is refused, or only tells, with this answer: all is as it was. */
    static void refused(String what, State state, ToIntFunction<LionShield> call, int due) {
        leaves(what, state, call, due, state);
    }

    /** A call behind which all is as in another land. */
    static void leaves(String what, State state, ToIntFunction<LionShield> call, int due, State left) {
        String row = state.name + ": " + what;
        is(row, call.applyAsInt(state.make()), due);
        List<String> after = state.then(what, call::applyAsInt).seen();
        List<String> wanted = left.seen();
        Due.is(head + " " + row + ": how much can be seen", after.size(), wanted.size());
        for (int i = 0; i < Math.min(after.size(), wanted.size()); i++) {
            if (!after.get(i).equals(wanted.get(i))) {
                Due.is(head + " " + row + ": behind it " + after.get(i) + ", due is that " + wanted.get(i), 1, 0);
                break;
            }
        }
    }
}
