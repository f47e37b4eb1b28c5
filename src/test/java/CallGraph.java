import java.util.LinkedHashMap;
import java.util.LinkedHashSet;
import java.util.Map;
import java.util.Set;
import java.util.function.BiConsumer;
import javax.lang.model.element.ExecutableElement;
import javax.lang.model.element.Modifier;
import javax.lang.model.element.VariableElement;

/** Which methods of a class call which: how deep that goes, and which of them come back to themselves. */
final class CallGraph {
    private static final int DEPTH = 8;
    private final Map<ExecutableElement, Set<ExecutableElement>> callees = new LinkedHashMap<>();

    void add(ExecutableElement method) {
        callees.computeIfAbsent(method, m -> new LinkedHashSet<>());
    }

    void call(ExecutableElement from, ExecutableElement to) {
        if (from != null) {
            add(from);
            callees.get(from).add(to);
        }
    }

    /** Tells rule 8 or 11 and what breaks it. */
    void judge(BiConsumer<Integer, String> tell) {
        for (ExecutableElement method : callees.keySet()) {
            if (comesTo(method, method) && !isGuarded(method)) {
                tell.accept(8, method + " calls itself without a depth");
            }
            int depth = depthBelow(method);
            if (depth > DEPTH) {
                tell.accept(11, "calls go " + depth + " deep below " + method);
            }
        }
    }

    private Set<ExecutableElement> below(ExecutableElement from) {
        Set<ExecutableElement> seen = new LinkedHashSet<>();
        add(from, seen);
        return seen;
    }

    private void add(ExecutableElement from, Set<ExecutableElement> seen) {
        for (ExecutableElement to : callees.getOrDefault(from, Set.of())) {
            if (seen.add(to)) {
                add(to, seen);
            }
        }
    }

    private boolean comesTo(ExecutableElement from, ExecutableElement to) {
        return below(from).contains(to);
    }

    // A depth must come with each call: an int among the parameters.
    private static boolean isGuarded(ExecutableElement method) {
        boolean carries = false;
        for (VariableElement parameter : method.getParameters()) {
            carries |= parameter.asType().toString().equals("int");
        }
        return carries && method.getModifiers().contains(Modifier.PRIVATE);
    }

    /** How many calls stand open at most below a method, those that come back to their caller left out. */
    private int depthBelow(ExecutableElement method) {
        int deepest = 0;
        for (ExecutableElement to : callees.getOrDefault(method, Set.of())) {
            if (!comesTo(to, method)) {
                deepest = Math.max(deepest, 1 + depthBelow(to));
            }
        }
        return deepest;
    }
}
