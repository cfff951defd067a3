import java.io.File;
import java.lang.reflect.Method;
import java.lang.reflect.Modifier;
import java.nio.file.Files;
import java.nio.file.Path;
import java.util.Arrays;
import java.util.List;
import java.util.Set;
import java.util.TreeSet;

/** The class keeps to ../shared/LANGUAGE.md as far as Language can see, and Language sees what breaks it. */
public final class LanguageTest {
    private static final Checks CHECKS = new Checks();
    /** Breaks no rule; a breach is put in the place of a comment or of other words. */
    private static final String SOUND = "import java.util.Arrays;\n"
            + "import java.util.NoSuchElementException;\n"
            + "public final class BalloonHarbour {\n"
            + "private static final int LIMIT = 3;\n"
            + "private final int[] row = new int[LIMIT];\n"
            + "private final StringBuilder line = new StringBuilder();\n"
            + "private double mean = 0;\n"
            + "/*member*/\n"
            + "public BalloonHarbour() {\n/*made*/\n}\n"
            + "public int hour() {\nint n = 1;\nString s = \"a\";\n/*call*/\nreturn count(n, 0);\n}\n"
            + "private static int count(int n, int depth) {\n"
            + "if (n < 0 || depth > LIMIT) {\nthrow new NoSuchElementException(\"none\");\n}\n"
            + "return n == 0 ? Math.max(n, depth) : count(n - 1, depth + 1);\n}\n"
            + "private static final class Inside {\nprivate int n = 0;\n/*inside*/\n}\n"
            + "}\n/*end*/\n";

    public static void main(String[] args) throws Exception {
        CHECKS.due("the files of the program", "[BalloonHarbour.java]",
                () -> Arrays.toString(new File("src/main/java").list()));
        Set<String> face = new TreeSet<>();
        for (Method method : BalloonHarbour.class.getDeclaredMethods()) {
            if (Modifier.isPublic(method.getModifiers())) {
                face.add(method.getName());
            }
        }
        sound("the class", Files.readString(Path.of("src/main/java/BalloonHarbour.java")), face);
        sound("a sound source", SOUND, Set.of("hour"));
        breachesOfTheFace();
        breachesOfTypes();
        breachesOfTheLibrary();
        breachesOfExceptionsAndLoops();
        breachesOfSize();
        breachesByNewObjects();
        CHECKS.finish();
    }

    private static void sound(String what, String source, Set<String> face) throws Exception {
        List<String> faults = Language.faultsOf(source, face);
        CHECKS.due("what breaks the rules in " + what, "", () -> String.join("\n", faults));
    }

    /** With these words in the place of others, the sound source breaks these rules and no other ones. */
    private static void breach(String rules, String place, String words) throws Exception {
        TreeSet<String> broken = new TreeSet<>();
        for (String fault : Language.faultsOf(SOUND.replace(place, words), Set.of("hour"))) {
            broken.add(fault.split(":")[0]);
        }
        CHECKS.due("the rules broken by " + words, rules, () -> String.join(" ", broken));
    }

    private static void member(String rules, String words) throws Exception {
        breach(rules, "/*member*/", words);
    }

    private static void call(String rules, String words) throws Exception {
        breach(rules, "/*call*/", words);
    }

    private static void breachesOfTheFace() throws Exception {
        breach("1", "import java.util.Arrays;", "package harbour; import java.util.Arrays;");
        breach("1", "public final class", "public class");
        breach("1", "private final int[] row", "final int[] row");
        breach("1 2", "/*end*/", "interface Second { }");
        member("1", "public int minute() { return 0; }");
        member("1", "int minute() { return 0; }");
        member("1", "protected int minute() { return 0; }");
        member("1", "private int hour(int day) { return day; }");
        member("1", "public static final class Seen { }");
        member("1", "private final class OfAnObject { }");
        breach("1", "/*inside*/", "int hour() { return n; }");
        call("1 2", "class Local { }");
        call("2 3 4", "Runnable r = () -> { };");
        call("2 3 4", "Runnable r = this::hour;");
    }

    private static void breachesOfTypes() throws Exception {
        member("3", "private String[] texts = null;");
        member("3", "private Inside[][] rows = null;");
        member("3", "private int[][][] rows = null;");
        member("3 4", "private Object any = null;");
        member("3 4", "private Object any() { return null; }");
        member("3", "private static final class Own<T> { }");
        member("3", "private static final char SIGN = '\\u0100';");
        call("3", "mean = mean % 2;");
        call("3", "mean %= 2;");
        member("5", "private static int made = 0;");
        member("5", "private static final int[] ROW = {1, 2};");
        member("5", "private static final Inside NOBODY = null;");
        member("5", "static { }");
        call("10", "s = s + n;");
        call("10", "s += n;");
        call("10", "switch (s) { case \"a\": n++; break; default: n--; }");
    }

    private static void breachesOfTheLibrary() throws Exception {
        breach("4", "import java.util.Arrays;", "import java.util.Arrays; import java.util.Random;");
        breach("4", "import java.util.Arrays;", "import java.util.*;");
        breach("4", "import java.util.Arrays;", "import java.util.Arrays; import static java.lang.Math.abs;");
        call("4", "n = Math.addExact(n, 1);");
        call("4", "mean = Math.abs(mean);");
        call("4", "n = Integer.parseInt(s);");
        call("4", "n = Integer.MAX_VALUE;");
        call("4", "s = s.trim();");
        call("4", "s = String.valueOf(n);");
        call("4", "line.append(1.5);");
        call("4", "line.insert(0, s);");
        call("4", "Arrays.sort(row);");
        call("4", "n = (int) System.nanoTime();");
        call("4", "Thread.yield();");
        call("4", "s = \"\\u00e9\";");
        call("12 4", "s = new String(row, 0, 1);");
    }

    private static void breachesOfExceptionsAndLoops() throws Exception {
        call("6", "if (n > 1) { throw new NoSuchElementException(s); }");
        call("12 3 4 6", "RuntimeException e = new RuntimeException(); if (n > 1) { throw e; }");
        call("4 6", "if (n > 1) { throw new NullPointerException(); }");
        call("3 6", "try { n = count(n, 0); } catch (NoSuchElementException e) { n = 0; }");
        call("6", "assert n > 0;");
        call("6", "synchronized (this) { n++; }");
        call("6", "n = s == \"b\" ? 1 : 2;");
        call("3 4 6", "Object any = line; n = ((Inside) any).n;");
        breach("6", "/*made*/", "if (mean > 1) { throw new IllegalStateException(); }");
        breach("6", "/*inside*/", "public String toString() { return \"\"; }");
        member("6", "private synchronized int minute() { return 0; }");
        member("4 6", "private static final class Fault extends RuntimeException { }");
        call("9", "for (;;) { n++; if (n > 9) { break; } }");
        call("9", "while (true) { n++; if (n > 9) { break; } }");
        call("9", "do { n++; if (n > 9) { break; } } while (true);");
    }

    private static void breachesOfSize() throws Exception {
        breach("8", "private static int count", "private int count");
        member("8", "private static int down(int n) { return n < 1 ? 0 : down(n - 1); }");
        member("8", "private static int a(int depth) { return b(depth); } "
                + "private static int b(int depth) { return a(depth); }");
        member("11", "private int many(int a, int b, int c, int d, int e, int f, int g, int h) { return a; }");
        member("11", "private int lines() {\n" + "mean = 1;\n".repeat(58) + "return 0;\n}");
        member("", "private int lines() {\n" + "mean = 1;\n".repeat(57) + "return 0;\n}");
        StringBuilder chain = new StringBuilder("private int m9() { return 0; }");
        StringBuilder classes = new StringBuilder();
        StringBuilder fields = new StringBuilder();
        for (int number = 1; number <= 8; number++) {
            chain.append(" private int m" + number + "() { return m" + (number + 1) + "(); }");
        }
        for (int number = 1; number <= 11; number++) {
            classes.append(" private static final class C" + number + " { }");
        }
        for (int number = 1; number <= 18; number++) {
            fields.append(" private int f" + number + " = 0;");
        }
        member("11", chain.toString());
        member("11", classes.toString());
        member("11", fields.toString());
        member("", chain.toString().replace("return m9()", "return 0"));
        member("", classes.toString().replace("private static final class C1 { }", ""));
        member("", fields.toString().replace("private int f1 = 0;", ""));
    }

    private static void breachesByNewObjects() throws Exception {
        call("12", "Inside one = new Inside();");
        call("12", "int[] more = new int[n];");
        member("1 12 2", "private static class Open { } private Open open() { return new Open() { }; }");
        breach("", "/*made*/", "Inside one = new Inside();");
        breach("12", "/*made*/", "mean = hour();");
    }
}
