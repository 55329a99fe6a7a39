import java.lang.reflect.Method;
import java.math.BigInteger;
import java.nio.charset.StandardCharsets;
import java.nio.file.Files;
import java.nio.file.Path;
import java.util.ArrayList;
import java.util.Comparator;
import java.util.List;
import java.util.Set;
import java.util.TreeSet;
import java.util.function.Supplier;

/**
 * What the boundary tests share. Each sentence of ../shared/DOC.md that names a boundary case (too small, too large,
 * empty, full, a wrap-around, a refused call) has a test of its own: a method without parameters, which quotes the
 * sentence first of all. All such methods of a class are run, so that none can be left out; a quote that does not
 * stand in its section of the document is told as wrong, too.
 */
abstract class Sentences {
    static final int DOCUMENT = -1;
    static final int TERMS = 0;
    static final int PROMISES = 37;
    static final int NONE = -1, BAD = -2, NO = -3, FULL = -4;

    /** Saying 0 is first heard in minute 29 by a plain one: 3 beside 8, but beside 14 and 12 just before. */
    static final String HEARD_AT_29 = heardAt29(0);
    static final String EIGHT_AND_THREE = "house;say 0 0 9;say 1 0 9;say 2 1 9;say 3 1 9;say 4 2 9;say 5 2 9;"
        + "say 0 3 9;say 0 3 1;ear 0 0;ear 1 1;ear 5 2;";

    private static final Set<Integer> QUOTED = new TreeSet<>();
    private static String document = "";
    private static String sentence = "";
    private static int wrong = 0;

    /** Runs the tests of the class, which must quote each of the sections from the first to the last. */
    static void check(Class<?> tests, int first, int last) throws Exception {
        Path path = Path.of("../shared/DOC.md");
        document = Files.isReadable(path) ? Files.readString(path, StandardCharsets.UTF_8) : "";
        List<Method> all = testsOf(tests);
        for (Method test : all) {
            sentence = "";
            test.invoke(null);
            if (sentence.isEmpty()) {
                complain(test.getName() + " quotes no sentence");
            }
        }
        for (int section = first; section <= last; section++) {
            if (!QUOTED.contains(section)) {
                complain("no boundary of " + named(section) + " is tested");
            }
        }
        System.out.println(wrong == 0 ? all.size() + " boundaries are as told" : wrong + " answers are not as told");
        if (wrong != 0) {
            System.exit(1);
        }
    }

    private static List<Method> testsOf(Class<?> tests) {
        List<Method> all = new ArrayList<>();
        for (Method m : tests.getDeclaredMethods()) {
            if (m.getParameterCount() == 0 && m.getReturnType() == void.class && !m.isSynthetic()) {
                all.add(m);
            }
        }
        all.sort(Comparator.comparing(Method::getName));
        return all;
    }

    private static String named(int section) {
        return section == DOCUMENT ? "the document" : section == TERMS ? "the Terms" : "promise " + section;
    }

    static void complain(String what) {
        wrong++;
        System.out.println(what);
    }

    /** What the answers that follow are due by. */
    static void by(int section, String words) {
        sentence = named(section) + ", '" + words + "'";
        QUOTED.add(section);
        if (!document.isEmpty() && !textOf(section).contains(words)) {
            complain(sentence + " does not stand there");
        }
    }

    private static String textOf(int section) {
        if (section == DOCUMENT) {
            return document;
        }
        String heading = section == TERMS ? "\n## Terms" : "\n## Promise " + section + ":";
        int from = Math.max(0, document.indexOf(heading));
        int to = document.indexOf("\n## ", from + 1);
        return document.substring(from, to < 0 ? document.length() : to);
    }

    static void due(String call, long got, long want) {
        if (got != want) {
            complain(sentence + ": " + call + " answered " + got + ", due is " + want);
        }
    }

    static void refused(String behind, PaperHears x, int bad, int no, int full) {
        due("status(0) behind " + behind, x.status(0), bad);
        due("status(1) behind " + behind, x.status(1), no);
        due("status(2) behind " + behind, x.status(2), full);
    }

    /** The text takes the place of the one before. */
    static int read(PaperHears x, String text) {
        x.clear();
        for (int k = 0; k < text.length(); k++) {
            x.type(text.charAt(k));
        }
        return x.read();
    }

    static PaperHears told(String text) {
        PaperHears x = new PaperHears();
        int answer = read(x, text);
        if (answer < 1) {
            complain(sentence + ": the text " + text + " was not read: " + answer);
        }
        return x;
    }

    static void items(String text, int want) {
        due("read() of '" + text + "'", read(new PaperHears(), text), want);
    }

    /** The fault is told, and all that there was stays. */
    static void fault(String text, int place) {
        PaperHears x = told("house;say 1 1 1;ear 0 1;strip 1;minutes 2;");
        x.clear();
        long before = x.digest();
        due("read() of '" + text + "'", read(x, text), -10 - place);
        due("clear() behind '" + text + "'", x.clear(), text.length());
        due("digest() behind '" + text + "'", x.digest(), before);
        refused("'" + text + "'", x, 0, 0, 0);
    }

    static void chance(PaperHears x, int i, int s, int c, long above, long below) {
        String call = "holds(" + i + ", " + s + ", " + c + ")";
        due(call, x.holds(i, s, c), 1);
        due("part(0) behind " + call, x.part(0), above);
        due("part(1) behind " + call, x.part(1), below);
    }

    static long hash(List<Integer> numbers) {
        BigInteger h = BigInteger.valueOf(1583);
        for (int v : numbers) {
            h = h.multiply(BigInteger.valueOf(31)).add(BigInteger.valueOf(v));
        }
        return h.longValue();
    }

    // ---- houses

    static String times(int n, String text) {
        StringBuilder all = new StringBuilder();
        for (int k = 0; k < n; k++) {
            all.append(text);
        }
        return all.toString();
    }

    static String heardAt29(int room) {
        return "house;say 3 " + room + " 1;" + times(4, "say 0 " + room + " 9;") + times(3, "say 5 " + room + " 9;");
    }

    static PaperHears eightAndThree() {
        return told(EIGHT_AND_THREE);
    }

    static PaperHears twoAndTwo() {
        return told("house;say 0 0 9;say 1 3 4;ear 0 0;ear 2 3;");
    }

    /** The house of the text, where it is minute 9999. */
    static PaperHears atLast(String text) {
        PaperHears x = told(text);
        for (int k = 0; k < 101; k++) {
            x.minutes(99);
        }
        return x;
    }

    // ---- bounds of the numbers that a call is given

    interface Call {
        long on(PaperHears x, int[] a);
    }

    /**
     * The bounds are the least and the most of each number that the call is given. Each number in turn, a little and
     * far beyond them, is refused as BAD; each number at its bounds is not.
     */
    static void bounds(String name, Supplier<PaperHears> maker, Call call, int... bounds) {
        int numbers = bounds.length / 2;
        for (int k = 0; k < numbers; k++) {
            int least = bounds[2 * k];
            int most = bounds[2 * k + 1];
            int[] beyond = {least - 1, most + 1, least - 256, most + 256, least - 65536, most + 65536,
                Integer.MIN_VALUE, Integer.MAX_VALUE};
            for (int number : beyond) {
                int[] a = atBounds(bounds, number % 2 == 0 ? 0 : -1);
                a[k] = number;
                outside(spoken(name, a), maker.get(), call, a);
            }
        }
        for (int corner = 0; corner < 1 << numbers; corner++) {
            int[] a = atBounds(bounds, corner);
            inside(spoken(name, a), maker.get(), call, a);
        }
    }

    private static void outside(String spoken, PaperHears x, Call call, int[] a) {
        int bad = x.status(0);
        int no = x.status(1);
        int full = x.status(2);
        long before = x.digest();
        due(spoken, call.on(x, a), BAD);
        refused(spoken, x, bad + 1, no, full);
        due("digest() behind " + spoken, x.digest(), before);
    }

    private static void inside(String spoken, PaperHears x, Call call, int[] a) {
        int before = x.status(0);
        long got = call.on(x, a);
        if (got == BAD || x.status(0) != before) {
            complain(sentence + ": " + spoken + " answered " + got + ", but is not BAD");
        }
    }

    /** The corner tells by bits which numbers are at their most. */
    private static int[] atBounds(int[] bounds, int corner) {
        int[] a = new int[bounds.length / 2];
        for (int k = 0; k < a.length; k++) {
            a[k] = bounds[2 * k + (corner >> k & 1)];
        }
        return a;
    }

    private static String spoken(String name, int[] a) {
        StringBuilder words = new StringBuilder(name + "(");
        for (int k = 0; k < a.length; k++) {
            words.append(k == 0 ? "" : ", ").append(a[k]);
        }
        return words.append(")").toString();
    }
}
