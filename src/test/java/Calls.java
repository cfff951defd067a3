import java.util.ArrayDeque;
import java.util.ArrayList;
import java.util.Deque;
import java.util.LinkedHashMap;
import java.util.LinkedHashSet;
import java.util.List;
import java.util.Map;
import java.util.Set;
import javax.lang.model.element.ExecutableElement;
import javax.lang.model.element.Modifier;

/** Which method calls which: recursion (rule 8 of ../shared/LANGUAGE.md) and the depth of other calls (rule 11). */
final class Calls {
    private static final int DEEPEST = 8;

    private final Map<ExecutableElement, Set<ExecutableElement>> called = new LinkedHashMap<>();
    private final List<String> faults = new ArrayList<>();

    void add(ExecutableElement method) {
        called.computeIfAbsent(method, m -> new LinkedHashSet<>());
    }

    void add(ExecutableElement caller, ExecutableElement method) {
        add(caller);
        called.get(caller).add(method);
    }

    List<String> faults() {
        for (ExecutableElement method : called.keySet()) {
            follow(method, new ArrayDeque<>());
        }
        return faults;
    }

    /** Goes through all chains of calls from a method; a method that calls itself counts once in a chain. */
    private void follow(ExecutableElement method, Deque<ExecutableElement> chain) {
        if (chain.contains(method)) {
            boolean callsItself = chain.peekLast().equals(method);
            allow(callsItself && isGuarded(method), "8: recursion without a private static method with a depth", method);
            return;
        }
        chain.addLast(method);
        allow(chain.size() <= DEEPEST, "11: the chain of calls " + chain, method);
        for (ExecutableElement next : called.getOrDefault(method, Set.of())) {
            follow(next, chain);
        }
        chain.removeLast();
    }

    private static boolean isGuarded(ExecutableElement method) {
        return method.getModifiers().containsAll(Set.of(Modifier.PRIVATE, Modifier.STATIC))
                && method.getParameters().stream().anyMatch(p -> p.getSimpleName().contentEquals("depth"));
    }

    private void allow(boolean fine, String what, ExecutableElement method) {
        String fault = what + ", " + method;
        if (!fine && !faults.contains(fault)) {
            faults.add(fault);
        }
    }
}
