import java.util.ArrayList;
import java.util.HashMap;
import java.util.List;
import java.util.Map;
import java.util.Set;
import java.util.TreeSet;

/** How deep calls go, those that are recursion counting as one (rule 11), and which are recursion (rule 8). */
final class CallDepth {
    private final Map<String, Set<String>> calls;
    private final Map<String, Set<String>> reached = new HashMap<>();
    private final Map<String, List<String>> deepest = new HashMap<>();

    CallDepth(Map<String, Set<String>> calls) {
        this.calls = calls;
        for (String method : calls.keySet()) reached.put(method, reach(method));
    }

    private Set<String> reach(String from) {
        Set<String> seen = new TreeSet<>();
        List<String> open = new ArrayList<>(calls.get(from));
        while (!open.isEmpty()) {
            String next = open.remove(open.size() - 1);
            if (seen.add(next)) open.addAll(calls.getOrDefault(next, Set.of()));
        }
        return seen;
    }

    private boolean reaches(String one, String other) {
        return reached.getOrDefault(one, Set.of()).contains(other);
    }

    /** Sets of methods that call one another, themselves too. */
    Set<Set<String>> recursions() {
        Set<Set<String>> all = new java.util.HashSet<>();
        for (String method : calls.keySet()) {
            if (reaches(method, method)) all.add(around(method));
        }
        return all;
    }

    private Set<String> around(String method) {
        Set<String> group = new TreeSet<>(Set.of(method));
        for (String other : reached.getOrDefault(method, Set.of())) {
            if (reaches(other, method)) group.add(other);
        }
        return group;
    }

    /** The longest chain of calls that begins with a method, or with others of its recursion. */
    List<String> chainFrom(String method) {
        List<String> known = deepest.get(method);
        if (known != null) return known;
        Set<String> group = around(method);
        List<String> longest = List.of();
        for (String one : group) {
            for (String called : calls.getOrDefault(one, Set.of())) {
                List<String> chain = group.contains(called) ? List.of() : chainFrom(called);
                if (chain.size() > longest.size()) longest = chain;
            }
        }
        List<String> whole = new ArrayList<>(List.of(method));
        whole.addAll(longest);
        deepest.put(method, whole);
        return whole;
    }
}
