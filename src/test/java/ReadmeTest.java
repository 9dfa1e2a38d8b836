import java.io.ByteArrayOutputStream;
import java.io.IOException;
import java.io.PrintStream;
import java.lang.reflect.Method;
import java.lang.reflect.Modifier;
import java.nio.charset.StandardCharsets;
import java.nio.file.Files;
import java.nio.file.Path;
import java.util.ArrayList;
import java.util.List;
import java.util.Set;
import java.util.TreeSet;
import java.util.regex.Matcher;
import java.util.regex.Pattern;
import java.util.stream.Stream;

/** What README.md shows is right as it stands there. */
public final class ReadmeTest {
    private static final Checks C = new Checks("ReadmeTest");
    private static final Set<String> TAPE = Set.of("feed", "end", "text", "fault", "image", "again");

    private final String readme;

    private ReadmeTest() throws IOException {
        readme = Files.readString(Path.of("README.md"));
    }

    public static void main(String[] args) throws Exception {
        ReadmeTest test = new ReadmeTest();
        test.example();
        test.tapeIsNamed();
        test.noSuchText();
        test.questions();
        test.classesInside();
        test.tests();
        C.finish();
    }

    private String block(String kind) {
        Matcher m = Pattern.compile("(?ms)^```" + kind + "\n(.*?)^```$").matcher(readme);
        return m.find() ? m.group(1) : "";
    }

    /** From a heading or the head of a table to the next blank line behind its rows. */
    private List<String> rows(String head) {
        List<String> rows = new ArrayList<>();
        int at = readme.indexOf("\n" + head + "\n");
        C.due("a table: " + head, at >= 0, true);
        if (at >= 0) {
            String[] lines = readme.substring(at + 1).split("\n");
            for (int i = 2; i < lines.length && lines[i].startsWith("|"); i++) {
                rows.add(lines[i]);
            }
        }
        return rows;
    }

    private static List<String> names(String row) {
        List<String> names = new ArrayList<>();
        Matcher m = Pattern.compile("`(\\w+)`").matcher(row);
        while (m.find()) {
            names.add(m.group(1));
        }
        return names;
    }

    private void example() throws IOException {
        String source = Files.readString(Path.of("src/test/java/Example.java"));
        C.due("the example is Example.java", block("java").equals(source), true);
        ByteArrayOutputStream printed = new ByteArrayOutputStream();
        PrintStream screen = System.out;
        System.setOut(new PrintStream(printed, true, StandardCharsets.UTF_8));
        Example.main(new String[0]);
        System.setOut(screen);
        String lines = printed.toString(StandardCharsets.UTF_8).replace("\r\n", "\n");
        C.due("it prints what stands there, but:\n" + lines, block("text").equals(lines), true);
    }

    private void tapeIsNamed() {
        for (String name : TAPE) {
            C.due("README tells of " + name, readme.matches("(?s).*`" + name + "[`(].*"), true);
        }
    }

    /** On a new object each question is of a text that is not there. */
    private void noSuchText() throws ReflectiveOperationException {
        Set<String> seen = new TreeSet<>();
        for (String row : rows("| answer | of these |")) {
            int due = Integer.parseInt(row.split("\\|")[1].trim());
            for (String name : names(row)) {
                C.due("once: " + name, seen.add(name), true);
                C.due(name + " of no such text", ask(name), due);
            }
        }
        Set<String> all = questionNames();
        all.remove("count");
        C.due("each question has its answer there", seen.equals(all), true);
    }

    private static int ask(String name) throws ReflectiveOperationException {
        for (Method m : QuotaParish.class.getMethods()) {
            if (m.getName().equals(name)) {
                Object[] arguments = new Object[m.getParameterCount()];
                for (int i = 0; i < arguments.length; i++) {
                    arguments[i] = m.getParameterTypes()[i] == boolean.class ? (Object) false : (Object) i;
                }
                return (Integer) m.invoke(new QuotaParish(), arguments);
            }
        }
        throw new NoSuchMethodException(name);
    }

    private static Set<String> questionNames() {
        Set<String> names = new TreeSet<>();
        for (Method m : QuotaParish.class.getDeclaredMethods()) {
            if (Modifier.isPublic(m.getModifiers()) && !TAPE.contains(m.getName())) {
                names.add(m.getName());
            }
        }
        return names;
    }

    private void questions() {
        Set<String> seen = new TreeSet<>();
        for (String row : rows("| about | methods |")) {
            for (String name : names(row)) {
                C.due("once: " + name, seen.add(name), true);
            }
        }
        C.due("each question, no other: " + seen, seen.equals(questionNames()), true);
    }

    private void classesInside() {
        Set<String> told = new TreeSet<>();
        for (String row : rows("| class inside | what it does |")) {
            told.addAll(names(row));
        }
        Set<String> inside = new TreeSet<>();
        for (Class<?> c : QuotaParish.class.getDeclaredClasses()) {
            inside.add(c.getSimpleName());
        }
        C.due("the classes inside: " + told, told.equals(inside), true);
    }

    private void tests() throws IOException {
        Set<String> told = new TreeSet<>();
        for (String name : names(readme)) {
            if (name.endsWith("Test")) {
                told.add(name + ".java");
            }
        }
        Set<String> there = new TreeSet<>();
        try (Stream<Path> files = Files.list(Path.of("src/test/java"))) {
            files.map(f -> f.getFileName().toString()).filter(f -> f.endsWith("Test.java")).forEach(there::add);
        }
        C.due("the tests: " + told, told.equals(there), true);
    }
}
