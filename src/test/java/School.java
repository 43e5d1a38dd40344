import java.lang.reflect.InvocationTargetException;
import java.lang.reflect.Method;
import java.util.ArrayList;
import java.util.HashMap;
import java.util.List;
import java.util.Map;

/**
 * An object of WordSchool that is called by texts such as "take(0, 1, 0, -1)", and that counts its
 * calls: nothing is promised beyond 512 of them, so that no test may rest on more.
 */
final class School {
    static final int MOST_CALLS = 512;
    private static final Map<String, Method> METHODS = methods();

    private final WordSchool x = new WordSchool();
    private int calls;

    /** A call, and what it has to answer if the text says so: "says(0, 0) = 1". */
    static final class Call {
        final String text;
        final Method method;
        final Object[] args;
        final Long want;

        private Call(String text, Method method, Object[] args, Long want) {
            this.text = text;
            this.method = method;
            this.args = args;
            this.want = want;
        }
    }

    private static Map<String, Method> methods() {
        Map<String, Method> found = new HashMap<>();
        for (Method m : WordSchool.class.getDeclaredMethods()) {
            if (java.lang.reflect.Modifier.isPublic(m.getModifiers())) {
                found.put(m.getName(), m);
            }
        }
        return found;
    }

    static List<Call> parseAll(String text) {
        List<Call> all = new ArrayList<>();
        for (String one : text.split(";")) {
            if (!one.isBlank()) {
                all.add(parse(one.trim()));
            }
        }
        return all;
    }

    static Call parse(String text) {
        int open = text.indexOf('(');
        int close = text.indexOf(')');
        Method m = METHODS.get(text.substring(0, open));
        if (m == null) {
            throw new IllegalArgumentException("no such method: " + text);
        }
        String inside = text.substring(open + 1, close).trim();
        String[] parts = inside.isEmpty() ? new String[0] : inside.split(",");
        Class<?>[] types = m.getParameterTypes();
        if (parts.length != types.length) {
            throw new IllegalArgumentException("not so many arguments: " + text);
        }
        Object[] args = new Object[parts.length];
        for (int i = 0; i < parts.length; i++) {
            long value = number(parts[i].trim());
            args[i] = types[i] == int.class ? (Object) Math.toIntExact(value) : (Object) value;
        }
        String rest = text.substring(close + 1).trim();
        return new Call(text, m, args, rest.isEmpty() ? null : number(rest.substring(1).trim()));
    }

    /** A number, one by its name, or a word by its SIGNS: '', '012', '0^27 111'. */
    static long number(String text) {
        switch (text) {
            case "MAX": return Integer.MAX_VALUE;
            case "MIN": return Integer.MIN_VALUE;
            case "LMAX": return Long.MAX_VALUE;
            case "LMIN": return Long.MIN_VALUE;
            default: return text.startsWith("'") ? word(text.substring(1, text.length() - 1)) : Long.parseLong(text);
        }
    }

    private static long word(String signs) {
        long number = 1;
        int length = 0;
        for (String run : signs.split(" ")) {
            int power = run.indexOf('^');
            String all = power < 0 ? run : run.substring(0, power).repeat(Integer.parseInt(run.substring(power + 1)));
            for (char sign : all.toCharArray()) {
                number = 4 * number + sign - '0';
                length++;
            }
        }
        if (length > 30) {
            throw new IllegalArgumentException("longer than a word: " + signs);
        }
        return number;
    }

    long call(Call c) {
        calls++;
        if (calls > MOST_CALLS) {
            throw new IllegalStateException("a test makes more than " + MOST_CALLS + " calls");
        }
        try {
            return ((Number) c.method.invoke(x, c.args)).longValue();
        } catch (InvocationTargetException e) {
            throw new IllegalStateException(c.text + " threw " + e.getCause(), e);
        } catch (IllegalAccessException e) {
            throw new IllegalStateException(e);
        }
    }

    long call(String text) {
        return call(parse(text));
    }
}
