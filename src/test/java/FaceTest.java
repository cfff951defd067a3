import java.lang.reflect.Constructor;
import java.lang.reflect.Field;
import java.lang.reflect.Method;
import java.lang.reflect.Modifier;
import java.nio.file.Files;
import java.nio.file.Path;
import java.util.ArrayList;
import java.util.List;
import java.util.TreeSet;
import java.util.regex.Matcher;
import java.util.regex.Pattern;

/** The class has the public face of the document under its headings, and no other member that others see. */
public final class FaceTest {
    public static void main(String[] args) throws Exception {
        Checks checks = new Checks();
        Class<?> type = BalloonHarbour.class;
        checks.due("public and final", Modifier.PUBLIC | Modifier.FINAL, () -> type.getModifiers());
        checks.due("the methods", documented().toString(), () -> visible(type).toString());
        checks.due("constructors", 1, () -> type.getDeclaredConstructors().length);
        for (Constructor<?> constructor : type.getDeclaredConstructors()) {
            checks.due("constructor", "public BalloonHarbour()", constructor::toGenericString);
        }
        for (Field field : type.getDeclaredFields()) {
            checks.due("private " + field, true, () -> Modifier.isPrivate(field.getModifiers()));
        }
        String headings = headingsOfSource();
        checks.due("the headings and the calls below them", headingsOfDocument(), () -> headings);
        checks.finish();
    }

    /** As "Ahead of the calls `feed`, `execute`, .. the interface says: ---- texts and output lines." tells them. */
    private static String headingsOfDocument() throws Exception {
        StringBuilder headings = new StringBuilder();
        Pattern ahead = Pattern.compile("Ahead of the calls (.*) the interface says: (.*)\\.");
        for (String line : Files.readAllLines(Path.of("../shared/DOC.md"))) {
            Matcher matcher = ahead.matcher(line);
            if (matcher.matches()) {
                headings.append(matcher.group(2)).append(": ");
                headings.append(matcher.group(1).replaceAll("[`,]", "")).append('\n');
            }
        }
        return headings.toString();
    }

    private static String headingsOfSource() throws Exception {
        StringBuilder headings = new StringBuilder();
        Pattern headingOrCall = Pattern.compile(" {4}// (----.*)| {4}public \\w+ (\\w+)\\(.*");
        for (String line : Files.readAllLines(Path.of("src/main/java/BalloonHarbour.java"))) {
            Matcher matcher = headingOrCall.matcher(line);
            if (matcher.matches()) {
                boolean isHeading = matcher.group(1) != null;
                headings.append(isHeading ? "\n" + matcher.group(1) + ":" : " " + matcher.group(2));
            }
        }
        return headings.append('\n').substring(1);
    }

    private static TreeSet<String> documented() throws Exception {
        TreeSet<String> methods = new TreeSet<>();
        Pattern method = Pattern.compile(
                "    public (int|boolean|char|double|float) (\\w+)\\((.*?)\\)(?: throws (.*))?;");
        for (String line : Files.readAllLines(Path.of("../shared/DOC.md"))) {
            Matcher matcher = method.matcher(line);
            if (matcher.matches()) {
                String parameters = matcher.group(3).replaceAll(" \\w+(, |$)", "$1");
                String thrown = matcher.group(4) == null ? "" : matcher.group(4);
                methods.add(matcher.group(1) + " " + matcher.group(2) + "(" + parameters + ") " + thrown);
            }
        }
        return methods;
    }

    private static TreeSet<String> visible(Class<?> type) {
        TreeSet<String> methods = new TreeSet<>();
        for (Method method : type.getDeclaredMethods()) {
            if (!Modifier.isPrivate(method.getModifiers())) {
                methods.add(method.getReturnType() + " " + method.getName() + "("
                        + names(method.getParameterTypes()) + ") " + names(method.getExceptionTypes()));
            }
        }
        return methods;
    }

    private static String names(Class<?>[] types) {
        List<String> names = new ArrayList<>();
        for (Class<?> type : types) {
            names.add(type.getSimpleName());
        }
        return String.join(", ", names);
    }
}
