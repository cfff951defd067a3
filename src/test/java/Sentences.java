import java.nio.file.Files;
import java.nio.file.Path;
import java.util.ArrayList;
import java.util.LinkedHashMap;
import java.util.LinkedHashSet;
import java.util.List;
import java.util.Map;
import java.util.NoSuchElementException;
import java.util.Set;

/**
 * Tests by sentence of ../shared/DOC.md. Each test quotes the sentence whose breach it would catch; a quote that
 * the document does not have fails, and so does a sentence of the document that no test quotes.
 */
final class Sentences {
    /** What a call answers on a busy harbour. */
    interface Act {
        Object on(BalloonHarbour h);
    }

    /** What a call with a number answers on a busy harbour. */
    interface NumberAct {
        Object on(BalloonHarbour h, int number);
    }

    private static final int LOWEST = Integer.MIN_VALUE;
    private static final int HIGHEST = Integer.MAX_VALUE;

    private static final Act NO_CALL = h -> 0;

    private final Map<String, Set<String>> untested;
    private final Map<String, Set<String>> document = new LinkedHashMap<>();
    private String section = "";
    private String sentence = "";
    private int tests = 0;
    private int answers = 0;
    private int wrong = 0;

    Sentences() throws Exception {
        untested = read();
        untested.forEach((name, sentences) -> document.put(name, new LinkedHashSet<>(sentences)));
    }

    /** The sentences from "Terms" to the last promise, by "Terms, Balloons", "Promise 1" and so on. */
    private static Map<String, Set<String>> read() throws Exception {
        Map<String, Set<String>> sections = new LinkedHashMap<>();
        String heading = "";
        String name = "";
        for (String line : Files.readAllLines(Path.of("../shared/DOC.md"))) {
            if (line.startsWith("## ")) {
                heading = line.substring(3);
                name = heading.split(":")[0];
                continue;
            }
            boolean tells = heading.equals("Terms") || heading.startsWith("Promise ");
            // The headings within the interface are comments, which no answer tells.
            if (!tells || line.isBlank() || line.startsWith("```") || line.startsWith("Ahead of the calls")) {
                continue;
            }
            List<String> sentences = split(line);
            if (heading.equals("Terms") && sentences.get(0).matches("\\w+( \\w+)?\\.")) {
                name = "Terms, " + sentences.remove(0).replace(".", "");
            }
            sections.computeIfAbsent(name, n -> new LinkedHashSet<>()).addAll(sentences);
        }
        return sections;
    }

    private static List<String> split(String line) {
        String told = line.startsWith("`") ? line.substring(line.indexOf("`: ") + 3) : line.strip();
        return new ArrayList<>(List.of(told.split("(?<=\\.) (?=[A-Z])")));
    }

    void section(String name) {
        section = name;
        if (!document.containsKey(name)) {
            tell("the document has no such section");
        }
    }

    void test(String quote, Runnable body) {
        sentence = quote;
        tests++;
        if (!document.getOrDefault(section, Set.of()).contains(quote)) {
            tell("the document has no such sentence");
        }
        int before = answers;
        try {
            body.run();
        } catch (RuntimeException e) {
            tell("the test ended with " + e);
        }
        if (answers == before) {
            tell("nothing was checked");
        }
        untested.getOrDefault(section, new LinkedHashSet<>()).remove(quote);
    }

    private void tell(String fault) {
        wrong++;
        System.out.println(section + " | " + sentence + " | " + fault);
    }

    void due(String what, Object want, Checks.Call call) {
        Object got;
        try {
            got = call.answer();
        } catch (RuntimeException e) {
            got = Checks.thrown(e);
        }
        answers++;
        if (!want.equals(got)) {
            tell(what + " answered " + got + ", due is " + want);
        }
    }

    /** The call throws the exception on a busy harbour, and nothing at all has changed then. */
    void refused(String what, Class<?> exception, Act act) {
        due(what, exception, () -> act.on(Busy.harbour()));
        nothingChanges(what, act);
    }

    private void nothingChanges(String what, Act act) {
        nothingButTheDenialChanges(what, act);
        due(what + ": denial", Whole.denial(NO_CALL), () -> Whole.denial(act));
    }

    private void nothingButTheDenialChanges(String what, Act act) {
        due(what + ": changes", Whole.changes(NO_CALL), () -> Whole.changes(act));
        due(what + ": besides", Whole.besides(NO_CALL), () -> Whole.besides(act));
    }

    /** The call is denied on a busy harbour, and nothing but the latest denial has changed then. */
    void denied(String what, int number, int detail, Act act) {
        BalloonHarbour h = Busy.harbour();
        due(what, UnsupportedOperationException.class, () -> act.on(h));
        denial(h, number, detail);
        nothingButTheDenialChanges(what, act);
    }

    /** The text is refused on a busy harbour, and nothing that changes can change has changed then. */
    void textRefused(String what, Class<?> exception, Act act) {
        due(what, exception, () -> act.on(Busy.harbour()));
        due(what + ": changes", Whole.changes(NO_CALL), () -> Whole.changes(act));
    }

    /** The latest denial is this one and has no cause. */
    void denial(BalloonHarbour h, int number, int detail) {
        due("number of the denial", number, h::denial);
        due("detail of the denial", detail, h::denialDetail);
        due("cause of the denial", NoSuchElementException.class, h::denialCause);
    }

    /** The call has this answer on a busy harbour, and nothing at all has changed then. */
    void onlyTells(Object want, Act act) {
        due("a busy harbour", want, () -> act.on(Busy.harbour()));
        nothingChanges("a busy harbour", act);
    }

    /** The call with a berth is refused wherever no balloon is moored. */
    void needsBalloon(NumberAct act) {
        refused("an empty berth", NoSuchElementException.class, h -> act.on(h, Busy.EMPTY));
        refused("where a balloon was cast off", NoSuchElementException.class, h -> act.on(h, Busy.CAST_OFF));
        refused("where a balloon burst", NoSuchElementException.class, h -> act.on(h, Busy.BURST));
        for (int berth : new int[] {-1, 10, LOWEST, HIGHEST}) {
            refused("berth " + berth, NoSuchElementException.class, h -> act.on(h, berth));
        }
        for (int berth = 0; berth < 10; berth++) {
            int b = berth;
            due("berth " + b + " of a new harbour", NoSuchElementException.class,
                    () -> act.on(new BalloonHarbour(), b));
        }
    }

    /** The call with a number is refused just outside the range, and far outside. */
    void needsRange(String name, int least, int greatest, NumberAct act) {
        for (int number : new int[] {least - 1, greatest + 1, LOWEST, HIGHEST}) {
            refused(name + " " + number, IllegalArgumentException.class, h -> act.on(h, number));
        }
    }

    /** The call with an index is refused just outside the indices from 0 on, and far outside. */
    void needsIndex(String name, int count, NumberAct act) {
        for (int index : new int[] {-1, count, LOWEST, HIGHEST}) {
            refused(name + " " + index, IndexOutOfBoundsException.class, h -> act.on(h, index));
        }
    }

    void finish() {
        untested.forEach((name, sentences) -> {
            for (String left : sentences) {
                wrong++;
                System.out.println(name + " | " + left + " | no test quotes this sentence");
            }
        });
        System.out.println(tests + " sentences tested by " + answers + " answers, " + wrong + " wrong");
        if (wrong > 0) {
            System.exit(1);
        }
    }
}
