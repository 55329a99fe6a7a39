import java.lang.reflect.Method;
import java.lang.reflect.Modifier;
import java.nio.charset.StandardCharsets;
import java.nio.file.Files;
import java.nio.file.Path;
import java.util.ArrayList;
import java.util.HashMap;
import java.util.List;
import java.util.Map;
import java.util.regex.Matcher;
import java.util.regex.Pattern;

/**
 * Does the calls of README.md's Java blocks, line by line: the last number of a line's comment is the answer due.
 * A line that is none of the few sorts below is told as wrong, so that no example goes untried.
 */
public final class ReadmeTest {
    private static final Pattern NEW = Pattern.compile("PaperHears x = new PaperHears\\(\\);");
    private static final Pattern CALL = Pattern.compile("(?:int (\\w+) = )?x\\.(\\w+)\\(([^()]*)\\);\\s+// .*?(-?\\d+)");
    private static final Pattern TEXT = Pattern.compile("for \\(char c : \"([^\"]*)\"\\.toCharArray\\(\\)\\) \\{");
    private static final Pattern REST_OF_TEXT = Pattern.compile(" {4}x\\.type\\(c\\);|\\}");

    private static final Map<String, Integer> NAMES = new HashMap<>();
    private static PaperHears x = null;
    private static int answers = 0;
    private static int wrong = 0;

    public static void main(String[] args) throws Exception {
        String page = Files.readString(Path.of("README.md"), StandardCharsets.UTF_8);
        for (List<String> block : javaBlocks(page)) {
            x = null;
            NAMES.clear();
            NAMES.put("PaperHears.NONE", PaperHears.NONE);
            for (String line : block) {
                follow(line);
            }
        }
        everyCallIsNamed(page);
        if (answers < 10) {
            complain("only " + answers + " answers were found to be tried");
        }
        System.out.println(wrong == 0 ? answers + " answers are as README.md says" : wrong + " lines are wrong");
        if (wrong != 0) {
            System.exit(1);
        }
    }

    private static void complain(String what) {
        wrong++;
        System.out.println(what);
    }

    private static List<List<String>> javaBlocks(String page) {
        List<List<String>> blocks = new ArrayList<>();
        Matcher block = Pattern.compile("(?s)\n```java\n(.*?)\n```\n").matcher(page);
        while (block.find()) {
            blocks.add(block.group(1).lines().toList());
        }
        return blocks;
    }

    private static void follow(String line) throws Exception {
        Matcher call = CALL.matcher(line);
        Matcher text = TEXT.matcher(line);
        if (NEW.matcher(line).matches()) {
            x = new PaperHears();
        } else if (x == null) {
            complain("no object yet: " + line);
        } else if (call.matches()) {
            tryCall(line, call);
        } else if (text.matches()) {
            for (char c : text.group(1).toCharArray()) {
                x.type(c);
            }
        } else if (!REST_OF_TEXT.matcher(line).matches()) {
            complain("not understood: " + line);
        }
    }

    private static void tryCall(String line, Matcher call) throws Exception {
        answers++;
        String[] words = call.group(3).isEmpty() ? new String[0] : call.group(3).split(", ");
        Object[] numbers = new Object[words.length];
        for (int k = 0; k < words.length; k++) {
            numbers[k] = number(words[k]);
        }
        long got = ((Number) method(call.group(2)).invoke(x, numbers)).longValue();
        if (got != Long.parseLong(call.group(4))) {
            complain("answered " + got + ": " + line);
        }
        if (call.group(1) != null) {
            NAMES.put(call.group(1), (int) got);
        }
    }

    private static int number(String word) {
        if (NAMES.containsKey(word)) {
            return NAMES.get(word);
        }
        return word.startsWith("'") ? word.charAt(1) : Integer.parseInt(word);
    }

    private static Method method(String name) {
        for (Method m : PaperHears.class.getDeclaredMethods()) {
            if (Modifier.isPublic(m.getModifiers()) && m.getName().equals(name)) {
                return m;
            }
        }
        throw new IllegalArgumentException("no call " + name);
    }

    /** In the table, with as many arguments as it takes. */
    private static void everyCallIsNamed(String page) {
        for (Method m : PaperHears.class.getDeclaredMethods()) {
            int many = m.getParameterCount();
            String arguments = many == 0 ? "" : "\\w+" + ", \\w+".repeat(many - 1);
            boolean named = Pattern.compile("(?m)^\\|.*`" + m.getName() + "\\(" + arguments + "\\)`").matcher(page).find();
            if (Modifier.isPublic(m.getModifiers()) && !named) {
                complain("the table leaves out " + m.getName());
            }
        }
    }
}
