import java.io.IOException;
import java.nio.file.Files;
import java.nio.file.Path;
import java.util.BitSet;
import java.util.TreeMap;
import java.util.regex.Matcher;
import java.util.regex.Pattern;

/**
 * Keeps the tests of edges and the document together: each test is told with the words of the document that it holds,
 * and at the end no words of the promises that a test class covers may be left without a test.
 */
class Edges {
    static final int LEAST = Integer.MIN_VALUE;
    static final int MOST = Integer.MAX_VALUE;
    /** The terms stand before the promises, which begin with 1. */
    static final int TERMS = 0;
    static final int WHAT_IT_IS = -1;

    private static final Path DOCUMENT = Path.of("../shared/DOC.md");

    private static final TreeMap<Integer, String> TEXTS = new TreeMap<>();
    private static final TreeMap<Integer, BitSet> HELD = new TreeMap<>();
    private static String now = "";
    private static int tests = 0;
    private static int wrong = 0;

    // ---- the document

    private static int numberOf(String heading) {
        if (heading.equals("What it is")) return WHAT_IT_IS;
        if (heading.equals("Terms")) return TERMS;
        Matcher promise = Pattern.compile("Promise (\\d+): .*").matcher(heading);
        return promise.matches() ? Integer.parseInt(promise.group(1)) : -2;
    }

    static void readDocument() throws IOException {
        int section = -2;
        for (String line : Files.readAllLines(DOCUMENT)) {
            if (line.startsWith("## ")) section = numberOf(line.substring(3));
            else if (!line.startsWith("```") && !line.startsWith("Ahead of the calls")) {
                TEXTS.merge(section, line.trim(), (before, more) -> before + " " + more);
            }
        }
        TEXTS.remove(-2);
        // What a call is named is the face's matter.
        TEXTS.replaceAll((number, text) -> number < 1 ? text : text.replaceFirst("`[^`]*`: ", ""));
        for (int number : TEXTS.keySet()) HELD.put(number, new BitSet());
    }

    /** One test for some words of a promise: they are marked as held wherever they stand there. */
    static void clause(int promise, String words, Runnable test) {
        now = (promise == TERMS ? "terms" : "promise " + promise) + ", \"" + words + "\"";
        tests++;
        String text = TEXTS.getOrDefault(promise, "");
        int at = text.indexOf(words);
        if (at < 0) fault("the document has no such words");
        for (int from = at; from >= 0; from = text.indexOf(words, from + 1)) HELD.get(promise).set(from, from + words.length());
        test.run();
    }

    /** All words of these promises must have been held by a test. */
    static void allHeld(int first, int last) {
        for (int promise = first; promise <= last; promise++) {
            now = promise == TERMS ? "terms" : "promise " + promise;
            String text = TEXTS.getOrDefault(promise, "");
            BitSet held = HELD.getOrDefault(promise, new BitSet());
            StringBuilder left = new StringBuilder();
            for (int i = 0; i < text.length(); i++) {
                boolean bare = !held.get(i) && Character.isLetterOrDigit(text.charAt(i));
                if (bare) left.append(text.charAt(i)); else if (left.length() > 0 && left.charAt(left.length() - 1) != ' ') left.append(' ');
            }
            if (text.isEmpty() || left.length() > 0) fault("no test for: " + left);
        }
    }

    static void finish() {
        if (tests > 0 && wrong == 0) System.out.println(tests + " clauses hold");
        if (wrong > 0) System.out.println(wrong + " answers are not as due");
        if (wrong != 0) System.exit(1);
    }

    // ---- answers

    private static void fault(String what) {
        wrong++;
        if (wrong <= 60) System.out.println(now + ": " + what);
    }

    static void due(String what, long got, long want) {
        if (got != want) fault(what + " answered " + got + ", due is " + want);
    }

    static void due(String what, boolean got, boolean want) {
        if (got != want) fault(what + " answered " + got + ", due is " + want);
    }

    static void due(String what, String got, String want) {
        if (!got.equals(want)) fault(what + " answered " + got + ", due is " + want);
    }

    // ---- maps, and what they tell as text

    /** A map with wells of kind 0 at the places given, x and y in turn. */
    static WellMap map(int wide, int high, int... places) {
        WellMap m = new WellMap();
        due("rectangle " + wide + " " + high, m.rectangle(wide, high), true);
        for (int i = 0; i < places.length; i += 2) {
            due("sink " + places[i] + " " + places[i + 1], m.sink(places[i], places[i + 1], 0, 0), i / 2);
        }
        return m;
    }

    /** All 24 whole points whose distance from 18 18 has the square 325, from 0 to 36. */
    static int[] roundOf24() {
        int[] places = new int[48];
        int n = 0;
        for (int x = 0; x <= 36; x++) {
            for (int y = 0; y <= 36; y++) {
                if ((x - 18) * (x - 18) + (y - 18) * (y - 18) == 325) {
                    places[n++] = x;
                    places[n++] = y;
                }
            }
        }
        return places;
    }

    static String fraction(long above, long below) {
        return below == 1 ? "" + above : above + "/" + below;
    }

    static String ground(WellMap m, int w) {
        StringBuilder text = new StringBuilder();
        for (int k = 0; k < m.corners(w); k++) {
            text.append(k == 0 ? "" : ", ").append(fraction(m.corner(w, k, 0), m.corner(w, k, 1)));
            text.append(' ').append(fraction(m.corner(w, k, 2), m.corner(w, k, 3)));
        }
        return text.toString();
    }

    static String border(WellMap m, int v, int w) {
        StringBuilder text = new StringBuilder();
        for (int k = 0; k < m.border(v, w); k++) {
            text.append(k == 0 ? "" : ", ").append(fraction(m.end(v, w, k, 0), m.end(v, w, k, 1)));
            text.append(' ').append(fraction(m.end(v, w, k, 2), m.end(v, w, k, 3)));
        }
        return text.toString();
    }

    static String round(WellMap m, int k) {
        return fraction(m.round(k, 0), m.round(k, 1)) + " " + fraction(m.round(k, 2), m.round(k, 3))
                + " by " + fraction(m.round(k, 4), m.round(k, 5));
    }

    static String largest(WellMap m) {
        return fraction(m.largest(0), m.largest(1)) + " " + fraction(m.largest(2), m.largest(3))
                + " by " + fraction(m.largest(4), m.largest(5));
    }

    static String rings(WellMap m) {
        StringBuilder text = new StringBuilder();
        for (int k = 0; k < m.rings(); k++) {
            text.append(k == 0 ? "" : ",");
            for (int w = 0; w < 24; w++) if ((m.ring(k) >> w & 1) == 1) text.append(text.length() == 0 ? "" : " ").append(w);
        }
        return text.toString();
    }

    static String net(WellMap m) {
        StringBuilder text = new StringBuilder();
        for (int k = 0; k < m.tree(); k++) {
            text.append(k == 0 ? "" : ", ").append(m.pipe(k, 0)).append(' ').append(m.pipe(k, 1)).append(" by ").append(m.pipe(k, 2));
        }
        return text.toString();
    }

    static String closest(WellMap m) {
        return m.closest(0) + " " + m.closest(1) + " by " + m.closest(2);
    }

    static String hull(WellMap m) {
        StringBuilder text = new StringBuilder();
        for (int k = 0; k < m.hull(); k++) text.append(k == 0 ? "" : " ").append(m.around(k));
        return text.toString();
    }

    /** Who goes first at a point, then the next one, and so on. */
    static String order(WellMap m, int x, int y, int q) {
        StringBuilder text = new StringBuilder();
        for (int k = 0; k < m.count(1); k++) text.append(k == 0 ? "" : " ").append(m.next(x, y, q, k));
        return text.toString();
    }

    /** Whole values around one that a mask, a shift or a product with wrap-around could take for it. */
    static int[] lookalikes(int v) {
        return new int[] {v + 32, v - 32, v + 64, v + 128, v + 256, v - 256, v + 1024, v + 65536, v - 65536, v + (1 << 24),
            v + (1 << 30), v + LEAST};
    }
}
