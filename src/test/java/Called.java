import java.lang.reflect.Method;
import java.util.ArrayList;
import java.util.HashMap;
import java.util.List;
import java.util.Map;

/**
 * One object that is called by texts, such as "put(35, 0, 1)". Besides numbers, {0 35} are bits, ALL all cells,
 * ALL-{0 35} all others; the names of Checks and MIN, MAX stand for their numbers. Two texts stand for several
 * calls: "tape(..)" feeds the bytes between its brackets, "says(..)" has them read, too.
 */
final class Called {
    /** An object is promised to answer so many calls. */
    private static final int MOST_CALLS = 512;
    private static final Map<String, Method> METHODS = new HashMap<>();
    private static final Map<String, Call> READ = new HashMap<>();

    static {
        for (Method m : GuardsLookLeft.class.getDeclaredMethods()) {
            METHODS.put(m.getName(), m);
        }
    }

    /** A text that has been read: a method and what it is called with, once or several times. */
    private static final class Call {
        final List<Method> methods = new ArrayList<>();
        final List<Object[]> arguments = new ArrayList<>();

        void add(String name, Object... numbers) {
            Method m = METHODS.get(name);
            if (m == null || m.getParameterCount() != numbers.length) {
                throw new IllegalStateException("no such call: " + name + " of " + numbers.length);
            }
            for (int i = 0; i < numbers.length; i++) {
                long v = (Long) numbers[i];
                if (m.getParameterTypes()[i] == int.class) {
                    if (v != (int) v) throw new IllegalStateException("no int for " + name + ": " + v);
                    numbers[i] = (int) v;
                }
            }
            methods.add(m);
            arguments.add(numbers);
        }
    }

    private final GuardsLookLeft object = new GuardsLookLeft();
    private int calls;

    Called(List<String> story) {
        for (String text : story) {
            call(text);
        }
    }

    /** What the call (of several the last one) answers. */
    long call(String text) {
        Call read = READ.computeIfAbsent(text, Called::read);
        long answer = 0;
        for (int i = 0; i < read.methods.size(); i++) {
            if (++calls > MOST_CALLS) {
                throw new IllegalStateException("more calls than are promised, at " + text);
            }
            try {
                answer = ((Number) read.methods.get(i).invoke(object, read.arguments.get(i))).longValue();
            } catch (ReflectiveOperationException e) {
                throw new IllegalStateException(text + " threw " + e.getCause(), e);
            }
        }
        return answer;
    }

    private static Call read(String text) {
        String name = text.substring(0, text.indexOf('('));
        String inside = text.substring(name.length() + 1, text.lastIndexOf(')'));
        Call call = new Call();
        if (name.equals("tape") || name.equals("says")) {
            feed(call, inside);
            if (name.equals("says")) call.add("text");
            return call;
        }
        String[] parts = inside.isEmpty() ? new String[0] : inside.split(", *");
        Object[] numbers = new Object[parts.length];
        for (int i = 0; i < parts.length; i++) {
            numbers[i] = number(parts[i]);
        }
        call.add(name, numbers);
        return call;
    }

    private static void feed(Call call, String bytes) {
        for (int i = 0; i < bytes.length(); i += 5) {
            Object[] numbers = new Object[6];
            int n = Math.min(5, bytes.length() - i);
            numbers[0] = (long) n;
            for (int j = 0; j < 5; j++) {
                numbers[1 + j] = j < n ? (long) bytes.charAt(i + j) : 0L;
            }
            call.add("feed", numbers);
        }
    }

    static long number(String told) {
        if (told.startsWith("ALL-")) return Checks.ALL & ~number(told.substring(4));
        if (told.startsWith("{")) {
            long bits = 0;
            for (String bit : told.substring(1, told.length() - 1).trim().split(" +")) {
                bits |= bit.isEmpty() ? 0 : 1L << Integer.parseInt(bit);
            }
            return bits;
        }
        switch (told) {
            case "ALL": return Checks.ALL;
            case "NO": return Checks.NO;
            case "BAD": return Checks.BAD;
            case "STATE": return Checks.STATE;
            case "FULL": return Checks.FULL;
            case "MIN": return Integer.MIN_VALUE;
            case "MAX": return Integer.MAX_VALUE;
            default: return Long.parseLong(told);
        }
    }
}
