import java.io.IOException;
import java.lang.reflect.Method;
import java.lang.reflect.Modifier;
import java.net.URL;
import java.net.URLClassLoader;
import java.nio.file.Files;
import java.nio.file.Path;
import java.util.ArrayList;
import java.util.List;
import java.util.regex.Matcher;
import java.util.regex.Pattern;
import javax.tools.ToolProvider;

/** What README.md shows as an example is compiled as it stands there, and must answer as README.md says. */
public final class ReadmeTests extends Tables {
    private static final String NEW_OBJECT = "DatingTable x = new DatingTable();";
    private static final Pattern CALL = Pattern.compile("(x\\.(\\w+)\\(.*\\));\\s+// (-?\\d+)\\b.*");
    private static final Pattern BLOCK = Pattern.compile("(?ms)^```java\\n(.*?)^```$");
    private static final int MOST_CALLS = 512;

    private static final List<String> calls = new ArrayList<>();
    private static final List<String> names = new ArrayList<>();
    private static final List<Long> answers = new ArrayList<>();
    private static final StringBuilder code = new StringBuilder();

    public static void main(String[] args) throws IOException, ReflectiveOperationException {
        String readme = Files.readString(Path.of("README.md"));
        readExamples(readme);
        answersAreAsTold();
        eachCallIsShown();
        eachFindingIsShown();
        saysWhatItMust(readme);
        due.end();
    }

    private static void readExamples(String readme) {
        Matcher block = BLOCK.matcher(readme);
        while (block.find()) {
            String[] lines = block.group(1).split("\n");
            due.holds("an example begins with a new object: " + lines[0], lines[0].startsWith(NEW_OBJECT));
            due.holds("an example has at most 512 calls", lines.length - 1 <= MOST_CALLS);
            code.append("{ ").append(lines[0]).append('\n');
            for (int at = 1; at < lines.length; at++) {
                readCall(lines[at]);
            }
            code.append("}\n");
        }
    }

    private static void readCall(String line) {
        Matcher call = CALL.matcher(line);
        boolean isCall = call.matches();
        due.holds("an example is of calls with their answers: " + line, isCall);
        if (isCall) {
            code.append("got[").append(calls.size()).append("] = ").append(call.group(1)).append(";\n");
            calls.add(call.group(1));
            names.add(call.group(2));
            answers.add(Long.parseLong(call.group(3)));
        }
    }

    private static void answersAreAsTold() throws IOException, ReflectiveOperationException {
        Path made = Files.createTempDirectory("readme");
        Path file = made.resolve("Examples.java");
        Files.writeString(file, "public final class Examples {\npublic static void ask(long[] got) {\n" + code + "}\n}\n");
        String[] options = {"-cp", System.getProperty("java.class.path"), "-d", made.toString(), file.toString()};
        due.is("README.md: its examples compile", ToolProvider.getSystemJavaCompiler().run(null, null, null, options), 0);
        long[] got = new long[calls.size()];
        try (URLClassLoader loader = new URLClassLoader(new URL[] {made.toUri().toURL()})) {
            loader.loadClass("Examples").getMethod("ask", long[].class).invoke(null, (Object) got);
        }
        for (int at = 0; at < got.length; at++) {
            due.is("README.md: " + calls.get(at), got[at], answers.get(at));
        }
    }

    private static void eachCallIsShown() {
        for (Method m : DatingTable.class.getDeclaredMethods()) {
            if (Modifier.isPublic(m.getModifiers())) {
                due.holds("README.md shows " + m.getName(), names.contains(m.getName()));
            }
        }
    }

    private static void eachFindingIsShown() {
        for (int finding : new int[] {BAD, NONE, BIG, NOTHING, PLACE, SORT, SIZE}) {
            due.holds("README.md shows the answer " + finding, answers.contains((long) finding));
        }
        boolean isShown = false;
        for (int at = 0; at < calls.size(); at++) {
            isShown |= names.get(at).equals("text") && answers.get(at) <= -3;
        }
        due.holds("README.md shows a text that is WRONG", isShown);
    }

    private static void saysWhatItMust(String readme) {
        String[] said = {"new DatingTable()", "512", "bash .ci/run", "| -2 |", "| -3 and less |", "| -4 |", "| -5 |", "| -10 |",
            "| -11 |", "| -12 |", "| -13 |"};
        for (String words : said) {
            due.holds("README.md says " + words, readme.contains(words));
        }
    }
}
