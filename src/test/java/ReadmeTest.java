import java.net.URL;
import java.net.URLClassLoader;
import java.nio.file.Files;
import java.nio.file.Path;
import java.util.ArrayList;
import java.util.List;
import java.util.regex.Matcher;
import java.util.regex.Pattern;
import javax.tools.ToolProvider;

/** The example of README.md: each call answers what stands behind its arrow. */
public final class ReadmeTest {
    private static final Pattern CALL = Pattern.compile("(x\\.[a-z]+\\(.*\\)); +// -> (\\S+).*");

    private final Check check = new Check();
    private final List<String> calls = new ArrayList<>();
    private final List<String> due = new ArrayList<>();

    public static void main(String[] args) throws Exception {
        ReadmeTest test = new ReadmeTest();
        test.read(Files.readString(Path.of("README.md")));
        Path directory = Files.createTempDirectory("readme");
        Path source = directory.resolve("Example.java");
        Path compiled = directory.resolve("Example.class");
        try {
            Files.writeString(source, test.program());
            test.compare(answers(source, directory));
        } finally {
            Files.deleteIfExists(source);
            Files.deleteIfExists(compiled);
            Files.delete(directory);
        }
        test.check.end("ReadmeTest");
    }

    private void read(String text) {
        int begin = text.indexOf("```java\n") + 8;
        for (String line : text.substring(begin, text.indexOf("```", begin)).split("\n")) {
            Matcher matcher = CALL.matcher(line);
            if (matcher.matches()) {
                calls.add(matcher.group(1));
                due.add(matcher.group(2));
            } else {
                boolean isKnown = line.isEmpty() || line.equals("LinkedUnits x = new LinkedUnits();");
                check.same("a call with its answer: " + line, isKnown, true);
            }
        }
        check.same("the example has calls", calls.size() > 10, true);
    }

    private String program() {
        StringBuilder text = new StringBuilder("public final class Example {\n"
            + "    public static String[] answers() {\n        LinkedUnits x = new LinkedUnits();\n        return new String[] {\n");
        for (String call : calls) {
            text.append("            \"\" + ").append(call).append(",\n");
        }
        return text.append("        };\n    }\n}\n").toString();
    }

    private static String[] answers(Path source, Path directory) throws Exception {
        String classes = System.getProperty("java.class.path");
        int failed = ToolProvider.getSystemJavaCompiler().run(null, null, null,
            "-cp", classes, "-d", directory.toString(), source.toString());
        if (failed != 0) {
            return new String[0];
        }
        try (URLClassLoader loader = new URLClassLoader(new URL[] {directory.toUri().toURL()})) {
            return (String[]) loader.loadClass("Example").getMethod("answers").invoke(null);
        }
    }

    private void compare(String[] answers) throws Exception {
        check.same("answers of the example", answers.length, calls.size());
        for (int i = 0; i < answers.length; i++) {
            String want = valueOf(due.get(i));
            check.same(calls.get(i) + " in README.md, which tells " + due.get(i) + ", answered " + answers[i] + "; the same:",
                answers[i].equals(want), true);
        }
    }

    private static String valueOf(String word) throws Exception {
        return word.matches("[A-Z]+") ? "" + LinkedUnits.class.getField(word).getInt(null) : word;
    }
}
