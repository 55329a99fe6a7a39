import java.lang.reflect.Field;
import java.lang.reflect.Method;
import java.lang.reflect.Modifier;
import java.nio.charset.StandardCharsets;
import java.nio.file.Files;
import java.nio.file.Path;
import java.util.Arrays;
import java.util.Set;
import java.util.TreeSet;
import java.util.regex.Matcher;
import java.util.regex.Pattern;

/** What of ../shared/LANGUAGE.md can be seen from the source's words and from the class. */
public final class RulesTest {
    private static final String FACE = "house:0 say:3 ear:1 type:1 clear:0 read:0 strips:1 papers:1 goes:2 minutes:1 "
        + "undo:0 of:2 about:2 room:2 loud:2 first:2 stay:4 stand:2 told:3 said:2 note:4 mark:4 forget:1 is:1 look:1 "
        + "kinds:1 ask:1 brothers:1 holds:3 jobs:2 part:1 image:1 from:1 status:1 count:1 digest:0";
    private static int wrong = 0;

    public static void main(String[] args) throws Exception {
        String source = Files.readString(Path.of("src/main/java/PaperHears.java"), StandardCharsets.ISO_8859_1);
        signs(source);
        String code = withoutCommentsAndTexts(source);
        words(code);
        methodLengths(code);
        madeInConstructorsOnly(code);
        face();
        inside(PaperHears.class);
        System.out.println(wrong == 0 ? "the rules are kept" : wrong + " rules are broken");
        if (wrong != 0) {
            System.exit(1);
        }
    }

    private static void broken(String what) {
        wrong++;
        System.out.println("broken: " + what);
    }

    private static void signs(String source) {
        for (int k = 0; k < source.length(); k++) {
            char c = source.charAt(k);
            if (c > 126 || c < 32 && c != '\n') {
                broken("rule 4: a sign " + (int) c + " at " + k);
            }
        }
    }

    private static String withoutCommentsAndTexts(String source) {
        return source.replaceAll("(?s)/\\*.*?\\*/", " ").replaceAll("//[^\n]*", " ")
            .replaceAll("\"[^\"\n]*\"", "\"\"").replaceAll("'.'", "' '");
    }

    private static void words(String code) {
        String[] forbidden = {"\\bthrow\\b", "\\bthrows\\b", "\\btry\\b", "\\bcatch\\b", "\\bsynchronized\\b",
            "\\bassert\\b", "\\bimport\\b", "\\bpackage\\b", "\\bprotected\\b", "\\bvolatile\\b", "\\bnative\\b",
            "->", "::", "@", "\\bequals\\b", "\\bM(AX|IN)_VALUE\\b", "\\bhashCode\\b", "\\btoString\\b", "\\bvar\\b", "Exact\\b",
            "\\bSystem\\b", "\\bfloat\\b", "\\bdouble\\b", "\\bObject\\b", "\"\" *\\+", "\\+ *\"\"",
            "while \\(true\\)", "for \\(;;\\)"};
        for (String word : forbidden) {
            if (Pattern.compile(word).matcher(code).find()) {
                broken("a word that may not stand: " + word);
            }
        }
        if (Pattern.compile("\\bstatic (?!final |void |(?:int|long|boolean) \\w+\\()").matcher(code).find()) {
            broken("rule 5: a static that is neither final nor a method");
        }
    }

    private static void methodLengths(String code) {
        Matcher head = Pattern.compile("(?m)^( +)[\\w<>\\[\\] ]+\\([^;()]*\\) \\{$").matcher(code);
        int heads = 0;
        while (head.find()) {
            heads++;
            int end = code.indexOf("\n" + head.group(1) + "}", head.end());
            long lines = code.substring(head.start(), Math.max(head.start(), end)).lines().count();
            if (end < 0 || lines > 60) {
                broken("rule 11: too long: " + head.group().trim());
            }
            if (head.group().chars().filter(c -> c == ',').count() > 6) {
                broken("rule 11: too many parameters: " + head.group().trim());
            }
        }
        if (heads < 80) {
            broken("only " + heads + " methods were found to be looked at");
        }
    }

    /** Rule 12 kept so that no call makes anything: all rows are made with the object. */
    private static void madeInConstructorsOnly(String code) {
        String left = code;
        for (Class<?> c : PaperHears.class.getDeclaredClasses()) {
            left = left.replaceAll("(?m)^        " + c.getSimpleName() + "\\([\\w ,]*\\) \\{\n(?:            .*\n)*        \\}", "");
        }
        left = left.replaceAll("(?m)^    public PaperHears\\(\\) \\{\n(?:        .*\n)*    \\}", "");
        if (Pattern.compile("\\bnew\\b").matcher(left).find()) {
            broken("something is made outside a constructor");
        }
    }

    private static void face() {
        Set<String> told = new TreeSet<>(Arrays.asList(FACE.split(" ")));
        Set<String> found = new TreeSet<>();
        for (Method m : PaperHears.class.getDeclaredMethods()) {
            if (Modifier.isPublic(m.getModifiers())) {
                found.add(m.getName() + ":" + m.getParameterCount());
                boolean isLong = m.getName().equals("part") || m.getName().equals("digest");
                if (m.getReturnType() != (isLong ? long.class : int.class)) {
                    broken("rule 1: what " + m.getName() + " answers");
                }
            } else if (!Modifier.isPrivate(m.getModifiers())) {
                broken("rule 1: neither public nor private: " + m.getName());
            }
        }
        if (!told.equals(found)) {
            broken("rule 1: the face is " + found);
        }
        for (Field f : PaperHears.class.getDeclaredFields()) {
            boolean constant = Set.of("NONE", "BAD", "NO", "FULL").contains(f.getName());
            if (constant != Modifier.isPublic(f.getModifiers()) || !constant && !Modifier.isPrivate(f.getModifiers())) {
                broken("rule 1: the field " + f.getName());
            }
        }
        if (PaperHears.class.getDeclaredConstructors().length != 1 || !Modifier.isFinal(PaperHears.class.getModifiers())) {
            broken("rule 1: the class or its constructor");
        }
    }

    private static void inside(Class<?> face) {
        Class<?>[] classes = face.getDeclaredClasses();
        if (classes.length > 11) {
            broken("rule 11: too many classes");
        }
        for (Class<?> c : classes) {
            if (!Modifier.isStatic(c.getModifiers()) || !Modifier.isPrivate(c.getModifiers())) {
                broken("rule 1: the class " + c.getName());
            }
            for (Method m : c.getDeclaredMethods()) {
                if ((" " + FACE).contains(" " + m.getName() + ":")) {
                    broken("rule 1: the name of a public one: " + c.getName() + "." + m.getName());
                }
            }
            fields(c);
        }
        fields(face);
        for (Method m : face.getDeclaredMethods()) {
            if (Modifier.isPrivate(m.getModifiers()) && (" " + FACE).contains(" " + m.getName() + ":")) {
                broken("rule 1: the name of a public one: " + m.getName());
            }
        }
    }

    private static void fields(Class<?> c) {
        int own = 0;
        for (Field f : c.getDeclaredFields()) {
            if (Modifier.isStatic(f.getModifiers())) {
                if (!Modifier.isFinal(f.getModifiers()) || f.getType() != int.class && f.getType() != long.class) {
                    broken("rule 5: " + c.getName() + "." + f.getName());
                }
            } else {
                own++;
            }
        }
        if (own > 20) {
            broken("rule 11: too many fields in " + c.getName());
        }
    }
}
