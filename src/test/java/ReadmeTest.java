import java.io.File;
import java.lang.reflect.Method;
import java.lang.reflect.Modifier;
import java.nio.file.Files;
import java.nio.file.Path;
import java.util.ArrayList;
import java.util.List;
import java.util.regex.Matcher;
import java.util.regex.Pattern;

/** The calls in README.md answer what stands beside them, and each method has an example there. */
public final class ReadmeTest {
    private static final Pattern CALL = Pattern.compile("(harbour\\.(\\w+)\\(.*\\)); +// (throws )?([^,]+)(,.*)?");

    public static void main(String[] args) throws Exception {
        List<String> examples = examples();
        boolean answersAsWritten = runAsWritten(examples);
        Checks checks = new Checks();
        checks.due("the examples run as README.md tells", true, () -> answersAsWritten);
        for (String line : examples) {
            checks.due("an answer stands beside " + line, line.startsWith("harbour."), () -> isCall(line));
        }
        for (Method method : BalloonHarbour.class.getDeclaredMethods()) {
            if (Modifier.isPublic(method.getModifiers())) {
                checks.due("README.md has an example of " + method.getName(), true,
                        () -> examples.stream().anyMatch(line -> isCallOf(method.getName(), line)));
            }
        }
        checks.finish();
    }

    /** The lines of all Java examples, which stand for one program. */
    private static List<String> examples() throws Exception {
        List<String> lines = new ArrayList<>();
        boolean within = false;
        for (String line : Files.readAllLines(Path.of("README.md"))) {
            if (line.startsWith("```")) {
                within = line.equals("```java");
            } else if (within) {
                lines.add(line);
            }
        }
        return lines;
    }

    private static boolean isCall(String line) {
        return CALL.matcher(line).matches();
    }

    private static boolean isCallOf(String method, String line) {
        Matcher call = CALL.matcher(line);
        return call.matches() && call.group(2).equals(method);
    }

    /** Makes a program of the examples that compares each answer with the one beside it, and runs it. */
    private static boolean runAsWritten(List<String> examples) throws Exception {
        StringBuilder source = new StringBuilder("import java.util.NoSuchElementException;\n"
                + "public final class Examples {\n"
                + "public static void main(String[] args) {\nChecks checks = new Checks();\n");
        examples.forEach(line -> source.append(checked(line)).append('\n'));
        source.append("checks.finish();\n}\n}\n");
        Path work = Files.createTempDirectory("readme");
        Path file = work.resolve("Examples.java");
        String classes = System.getProperty("java.class.path");
        try {
            Files.writeString(file, source);
            return runs("javac", "-d", work.toString(), "-cp", classes, file.toString())
                    && runs("java", "-cp", work + File.pathSeparator + classes, "Examples");
        } finally {
            Files.deleteIfExists(file);
            Files.deleteIfExists(work.resolve("Examples.class"));
            Files.delete(work);
        }
    }

    private static boolean runs(String... command) throws Exception {
        return new ProcessBuilder(command).inheritIO().start().waitFor() == 0;
    }

    private static String checked(String line) {
        Matcher call = CALL.matcher(line);
        if (!call.matches()) {
            return line;
        }
        String text = call.group(1).replace("\"", "\\\"");
        String answer = call.group(4).strip();
        if (call.group(3) != null) {
            return "checks.due(\"" + text + "\", " + answer + ".class, () -> " + call.group(1) + ");";
        }
        return "checks.due(\"" + text + "\", \"" + answer + "\", () -> String.valueOf(" + call.group(1) + "));";
    }
}
