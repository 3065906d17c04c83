import java.lang.reflect.Method;

/**
 * Runs of calls on new objects, written as lines "call arguments = answer", several to a line with ';' between.
 * A test ends with Script.end(), which makes the exit code 1 if an answer was not the one due.
 */
final class Script {
    private static int calls = 0;
    private static int wrong = 0;

    private Script() {
    }

    /** Makes a new object, runs the calls on it, and gives it back for more. */
    static CapabilityVats run(String title, String text) {
        CapabilityVats x = new CapabilityVats();
        more(x, title, text);
        return x;
    }

    static void more(CapabilityVats x, String title, String text) {
        for (String row : text.split("[;\n]")) {
            if (!row.isBlank()) {
                call(x, title, row.strip());
            }
        }
    }

    private static void call(CapabilityVats x, String title, String row) {
        String[] sides = row.split(" = ");
        String[] words = sides[0].strip().split(" +");
        due(title + ": " + sides[0].strip(), answer(x, words), sides[1].strip());
    }

    /** The answer as a text; an exception's is its name, which is never due. */
    static String answer(CapabilityVats x, String... words) {
        Object[] arguments = new Object[words.length - 1];
        for (int i = 0; i < arguments.length; i++) {
            arguments[i] = Integer.valueOf(words[i + 1]);
        }
        try {
            return String.valueOf(method(words[0], arguments.length).invoke(x, arguments));
        } catch (ReflectiveOperationException e) {
            return String.valueOf(e.getCause());
        }
    }

    private static Method method(String name, int parameters) {
        for (Method method : CapabilityVats.class.getDeclaredMethods()) {
            if (method.getName().equals(name) && method.getParameterCount() == parameters) {
                return method;
            }
        }
        throw new IllegalArgumentException("no such call: " + name);
    }

    static void due(String call, Object got, Object want) {
        calls++;
        if (!String.valueOf(got).equals(String.valueOf(want))) {
            wrong++;
            System.out.println(call + " answered " + got + ", due is " + want);
        }
    }

    static void end() {
        System.out.println(calls + " answers, " + wrong + " not as due");
        if (wrong != 0) {
            System.exit(1);
        }
    }
}
