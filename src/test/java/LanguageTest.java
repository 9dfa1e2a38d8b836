import java.io.IOException;
import java.lang.reflect.Constructor;
import java.lang.reflect.Field;
import java.lang.reflect.Method;
import java.lang.reflect.Modifier;
import java.nio.file.Files;
import java.nio.file.Path;
import java.util.Arrays;
import java.util.Set;
import java.util.TreeSet;
import java.util.regex.Matcher;
import java.util.regex.Pattern;

/** What of LANGUAGE.md a test can see: the face, the classes, and words that the program does without. */
public final class LanguageTest {
    private static final Checks C = new Checks("LanguageTest");
    private static final Set<String> FACE = new TreeSet<>(Arrays.asList(("feed end text fault parish deed stop state rush seeds"
        + " cuts ruin bid burden falls strife lot spared fact fits drawn retinue chief rank harm foe sale top behind passed"
        + " after odds fewest count image again").split(" ")));

    public static void main(String[] args) throws IOException {
        face();
        nested();
        words();
        methods();
        C.finish();
    }

    private static void face() {
        Set<String> seen = new TreeSet<>();
        for (Method m : QuotaParish.class.getDeclaredMethods()) {
            boolean open = Modifier.isPublic(m.getModifiers());
            C.due("public or private: " + m.getName(), open || Modifier.isPrivate(m.getModifiers()), true);
            if (open) {
                C.due("one of each: " + m.getName(), seen.add(m.getName()), true);
            } else {
                C.due("a private one of another name: " + m.getName(), FACE.contains(m.getName()), false);
            }
        }
        C.due("the face " + seen, seen.equals(FACE), true);
        for (Field f : QuotaParish.class.getDeclaredFields()) {
            C.due("no field but NONE is seen: " + f.getName(),
                f.getName().equals("NONE") ? Modifier.isPublic(f.getModifiers()) : Modifier.isPrivate(f.getModifiers()), true);
        }
        Constructor<?>[] made = QuotaParish.class.getConstructors();
        C.due("one constructor", made.length, 1);
        C.due("of nothing", made[0].getParameterCount(), 0);
        C.due("final", Modifier.isFinal(QuotaParish.class.getModifiers()), true);
    }

    private static void nested() {
        Class<?>[] inside = QuotaParish.class.getDeclaredClasses();
        C.due("some twelve classes", inside.length + 1 <= 12, true);
        for (Class<?> c : inside) {
            C.due("static: " + c, Modifier.isStatic(c.getModifiers()), true);
            int fields = 0;
            for (Field f : c.getDeclaredFields()) {
                if (Modifier.isStatic(f.getModifiers())) {
                    C.due("a static field is final: " + f, Modifier.isFinal(f.getModifiers()), true);
                } else {
                    fields++;
                }
            }
            C.due("some twenty fields: " + c, fields <= 20, true);
            for (Method m : c.getDeclaredMethods()) {
                C.due("seven parameters: " + m, m.getParameterCount() <= 7, true);
                C.due("another name than the face's: " + m, FACE.contains(m.getName()), false);
            }
        }
    }

    private static String code() throws IOException {
        String source = Files.readString(Path.of("src/main/java/QuotaParish.java"));
        return source.replaceAll("(?s)/\\*.*?\\*/", "").replaceAll("//[^\n]*", "").replaceAll("\"[^\"\n]*\"", "\"\"");
    }

    private static void words() throws IOException {
        String code = code();
        String[] unwanted = {"\\bthrow\\b", "\\bthrows\\b", "\\btry\\b", "\\bcatch\\b", "\\bsynchronized\\b", "\\bassert\\b", "->",
            "::", "\\bpackage\\b", "\\bimport\\b", "\\bprotected\\b", "Exact\\b", "\\bequals\\b", "\\bhashCode\\b",
            "\\btoString\\b", "\\bThread\\b", "\\bRandom\\b", "currentTime", "nanoTime", "while \\(true\\)", "for \\(;;"};
        for (String word : unwanted) {
            C.due("no " + word, Pattern.compile(word).matcher(code).find(), false);
        }
        C.due("signs of 1 to 127", code.chars().allMatch(c -> c >= 1 && c <= 127), true);
        Matcher system = Pattern.compile("System\\.(\\w+)").matcher(code);
        while (system.find()) {
            C.due("System." + system.group(1), system.group(1).equals("arraycopy"), true);
        }
    }

    /** A method's length is seen by its indent: it begins and ends at 4 or 8 blanks. */
    private static void methods() throws IOException {
        String[] lines = code().split("\n");
        Pattern head = Pattern.compile("^( {4}| {8})(?!private static final class)[A-Za-z].*\\) \\{$");
        for (int i = 0; i < lines.length; i++) {
            Matcher m = head.matcher(lines[i]);
            if (m.matches()) {
                int end = i;
                while (end < lines.length && !lines[end].equals(m.group(1) + "}")) {
                    end++;
                }
                C.due("some sixty lines: " + lines[i].trim(), end - i <= 60, true);
            }
        }
    }
}
