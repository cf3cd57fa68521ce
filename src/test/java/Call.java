import java.lang.reflect.Method;
import java.lang.reflect.Modifier;
import java.util.ArrayList;
import java.util.Arrays;
import java.util.HashMap;
import java.util.List;
import java.util.Map;

/** A call of FuseMinutes that was written down, so that it can be made on any object. */
final class Call {
    private static final Map<String, Method> METHODS = methods();
    private final Method method;
    private final Object[] args;

    private Call(Method method, Object[] args) {
        this.method = method;
        this.args = args;
    }

    private static Map<String, Method> methods() {
        Map<String, Method> map = new HashMap<>();
        for (Method m : FuseMinutes.class.getDeclaredMethods()) {
            if (Modifier.isPublic(m.getModifiers())) map.put(m.getName(), m);
        }
        return map;
    }

    static Call of(String name, Object... args) {
        Method method = METHODS.get(name);
        if (method == null || method.getParameterCount() != args.length) throw new IllegalArgumentException("no such call: " + name);
        return new Call(method, args);
    }

    /** "name(1, 2..4, {BIG, LOW}, true)" is one call for each choice of the ranges and lists, the last one changing first. */
    static List<Call> all(String text) {
        int open = text.indexOf('(');
        if (open < 0 || !text.endsWith(")")) throw new IllegalArgumentException("no call: " + text);
        List<Object[]> choices = new ArrayList<>();
        choices.add(new Object[0]);
        for (String part : parts(text.substring(open + 1, text.length() - 1))) {
            List<Object[]> longer = new ArrayList<>();
            for (Object[] before : choices) {
                for (Object value : values(part)) {
                    Object[] args = Arrays.copyOf(before, before.length + 1);
                    args[before.length] = value;
                    longer.add(args);
                }
            }
            choices = longer;
        }
        List<Call> calls = new ArrayList<>();
        for (Object[] args : choices) calls.add(of(text.substring(0, open).trim(), args));
        return calls;
    }

    private static List<String> parts(String text) {
        List<String> parts = new ArrayList<>();
        int deep = 0;
        StringBuilder part = new StringBuilder();
        for (char c : text.toCharArray()) {
            deep += c == '{' ? 1 : c == '}' ? -1 : 0;
            if (c == ',' && deep == 0) {
                parts.add(part.toString().trim());
                part.setLength(0);
            } else {
                part.append(c);
            }
        }
        if (!part.toString().isBlank()) parts.add(part.toString().trim());
        return parts;
    }

    private static List<Object> values(String part) {
        List<Object> values = new ArrayList<>();
        if (part.startsWith("{")) {
            for (String one : part.substring(1, part.length() - 1).split(",")) values.addAll(values(one.trim()));
        } else if (part.contains("..")) {
            int from = Integer.parseInt(part.substring(0, part.indexOf("..")));
            int to = Integer.parseInt(part.substring(part.indexOf("..") + 2));
            for (int i = from; i <= to; i++) values.add(i);
        } else {
            values.add(value(part));
        }
        return values;
    }

    private static Object value(String word) {
        return switch (word) {
            case "true" -> true;
            case "false" -> false;
            case "BIG" -> Integer.MAX_VALUE;
            case "LOW" -> Integer.MIN_VALUE;
            default -> Integer.valueOf(word);
        };
    }

    /** A boolean counts 1 or 0. */
    long on(FuseMinutes fuse) {
        try {
            Object answer = method.invoke(fuse, args);
            return answer instanceof Boolean b ? (b ? 1 : 0) : ((Number) answer).longValue();
        } catch (ReflectiveOperationException e) {
            throw new IllegalStateException(this + " threw", e);
        }
    }

    @Override
    public String toString() {
        String shown = Arrays.toString(args);
        return method.getName() + "(" + shown.substring(1, shown.length() - 1) + ")";
    }
}
