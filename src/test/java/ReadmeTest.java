import java.io.IOException;
import java.lang.reflect.Method;
import java.lang.reflect.Modifier;
import java.nio.file.Files;
import java.nio.file.Path;
import java.util.ArrayList;
import java.util.List;
import java.util.TreeSet;
import java.util.regex.Matcher;
import java.util.regex.Pattern;

/** README.md: its example, the calls and tests that it names, and that .ci/run runs the tests by its commands. */
public final class ReadmeTest extends Check {
    private static final Path README = Path.of("README.md");
    private static final Path RUN = Path.of(".ci/run");
    private static final Path TESTS = Path.of("src/test/java");
    private static final Pattern TEXT = Pattern.compile("String text = \"([^\"]*)\";.*");
    private static final Pattern CALL = Pattern.compile("x\\.(\\w+)\\(([-0-9, ]*)\\);\\s*// (-?\\d+)\\b.*");
    /** How .ci/run keeps a command that it runs by eval. */
    private static final Pattern KEPT = Pattern.compile("(\\w+)='(javac? .*)'");
    private static final Pattern TOOL = Pattern.compile("\\bjavac? ");

    public static void main(String[] args) throws Exception {
        if (!Files.isRegularFile(README)) {
            tellWrong("README.md is not there");
        } else {
            String page = Files.readString(README);
            example(block(page, "java", 0));
            callsAreNamed(page);
            testsAreNamed(page);
            commands(page);
        }
        end("ReadmeTest");
    }

    /** The lines of one of the page's blocks of a language, counted from 0. */
    private static List<String> block(String page, String language, int number) {
        List<String> lines = new ArrayList<>();
        int seen = -1;
        boolean inside = false;
        for (String line : page.split("\n")) {
            if (line.equals("```" + language)) {
                inside = true;
                seen++;
            } else if (line.equals("```")) {
                inside = false;
            } else if (inside && seen == number) {
                lines.add(line);
            }
        }
        return lines;
    }

    /** Makes the calls of the example, each of which must answer what stands behind it. */
    private static void example(List<String> lines) throws ReflectiveOperationException {
        FormPlaces x = new FormPlaces();
        int calls = 0;
        for (String line : lines) {
            Matcher text = TEXT.matcher(line);
            Matcher call = CALL.matcher(line);
            if (text.matches()) {
                for (int k = 0; k < text.group(1).length(); k++) x.letter(text.group(1).charAt(k));
            } else if (call.matches()) {
                calls++;
                due("README.md: " + call.group(1) + "(" + call.group(2) + ")",
                        answer(x, call.group(1), call.group(2)), Long.parseLong(call.group(3)));
            } else if (line.startsWith("x.")) {
                tellWrong("README.md: no answer stands behind " + line);
            }
        }
        if (calls == 0) tellWrong("README.md has no example");
    }

    private static long answer(FormPlaces x, String name, String list) throws ReflectiveOperationException {
        String[] parts = list.isEmpty() ? new String[0] : list.split(", ");
        Class<?>[] types = new Class<?>[parts.length];
        Object[] numbers = new Object[parts.length];
        for (int k = 0; k < parts.length; k++) {
            types[k] = int.class;
            numbers[k] = Integer.parseInt(parts[k]);
        }
        return ((Number) FormPlaces.class.getMethod(name, types).invoke(x, numbers)).longValue();
    }

    private static void callsAreNamed(String page) {
        for (Method method : FormPlaces.class.getDeclaredMethods()) {
            Pattern named = Pattern.compile("`" + method.getName() + "\\([^)`]*\\)`");
            if (!Modifier.isPublic(method.getModifiers())) continue;
            Matcher found = named.matcher(page);
            if (!found.find()) tellWrong("README.md does not name " + method.getName());
            else due("README.md: numbers of " + found.group(), numbersOf(found.group()), method.getParameterCount());
        }
        String[] refusals = {"`UNKNOWN` (-101)", "`OUTSIDE` (-102)", "`STATE` (-103)", "`FULL` (-104)", "`NONE` (-1)"};
        String line = page.replace('\n', ' ');
        for (String refusal : refusals) if (!line.contains(refusal)) tellWrong("README.md does not name " + refusal);
    }

    private static int numbersOf(String call) {
        return call.contains("()") ? 0 : call.split(",").length;
    }

    private static void testsAreNamed(String page) throws IOException {
        try (var files = Files.newDirectoryStream(TESTS, "*Test.java")) {
            for (Path file : files) {
                String name = file.getFileName().toString().replace(".java", "");
                if (!page.contains("`" + name + "`")) tellWrong("README.md does not name " + name);
            }
        }
    }

    /** The page's commands are those that .ci/run keeps; it runs each of them, and no other. */
    private static void commands(String page) throws IOException {
        List<String> run = Files.readAllLines(RUN);
        if (!block(page, "sh", 0).equals(List.of(RUN.toString()))) tellWrong("README.md does not name .ci/run first");
        TreeSet<String> kept = new TreeSet<>();
        for (String line : run) {
            Matcher found = KEPT.matcher(line);
            if (found.matches()) {
                kept.add(found.group(2));
                String used = "eval \"$" + found.group(1) + "\"";
                if (run.stream().noneMatch(other -> other.contains(used))) tellWrong(".ci/run never runs " + line);
            } else if (!line.startsWith("#") && TOOL.matcher(line).find()) {
                tellWrong(".ci/run has a command of its own: " + line);
            }
        }
        TreeSet<String> named = new TreeSet<>(block(page, "sh", 1));
        if (named.isEmpty() || !named.equals(kept)) tellWrong("README.md names " + named + ", .ci/run runs " + kept);
    }
}
