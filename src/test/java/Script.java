import java.lang.reflect.Method;
import java.util.Map;

/**
 * Runs of calls written as rows, each on a new object: "flip(2) = 4" calls and compares, "read '3:t0' = 1" types
 * a text and calls circuit(), "type '3:'" only types it, "counts = 3,0,0,0,0,0,0" compares all that count tells.
 * Answers may be written by the name of their constant.
 */
final class Script {
    private static final Map<String, Integer> NAMES = Map.of("BAD", -1, "NOT", -2, "FULL", -3, "NONE", -4,
            "NULL", -11, "CAST", -12, "INDEX", -13, "SIZE", -14);
    private static int asked;
    private static int wrong;

    private Script() { }

    static void on(String title, String... rows) {
        rows(title, new MirrorWires(), rows);
    }

    static void rows(String title, MirrorWires x, String[] rows) {
        for (int r = 0; r < rows.length; r++) {
            row(title, r, x, rows[r]);
        }
    }

    /** What a row's call answers, whatever is due. */
    static int told(MirrorWires x, String row) {
        return (int) called(x, row.substring(0, row.lastIndexOf(" = ")));
    }

    static void due(String call, long got, long want) {
        asked++;
        if (got != want) {
            wrong++;
            System.out.println(call + " answered " + got + ", due is " + want);
        }
    }

    static void end() {
        System.out.println(asked + " answers, " + wrong + " not as due");
        if (wrong != 0 || asked == 0) {
            System.exit(1);
        }
    }

    static int read(MirrorWires x, String text) {
        typed(x, text);
        return x.circuit();
    }

    static int typed(MirrorWires x, String text) {
        int last = 0;
        for (char letter : text.toCharArray()) {
            last = x.type(letter);
        }
        return last;
    }

    private static void row(String title, int number, MirrorWires x, String row) {
        if (row.startsWith("type '")) {
            typed(x, row.substring(6, row.lastIndexOf('\'')));
            return;
        }
        if (row.startsWith("counts = ")) {
            counts(title + ", row " + number, x, row.substring(9).split(","));
            return;
        }
        int split = row.lastIndexOf(" = ");
        String call = row.substring(0, split);
        String want = row.substring(split + 3);
        long got = call.startsWith("read '")
                ? read(x, call.substring(6, call.lastIndexOf('\'')))
                : called(x, call);
        due(title + ", row " + number + ": " + call, got,
                NAMES.containsKey(want) ? NAMES.get(want) : Long.parseLong(want));
    }

    private static void counts(String title, MirrorWires x, String[] want) {
        due(title + ": things counted", want.length, 7);
        for (int what = 0; what < want.length; what++) {
            due(title + ": count(" + what + ")", x.count(what), Long.parseLong(want[what].trim()));
        }
    }

    private static long called(MirrorWires x, String call) {
        int open = call.indexOf('(');
        String name = call.substring(0, open);
        String inside = call.substring(open + 1, call.length() - 1).trim();
        String[] words = inside.isEmpty() ? new String[0] : inside.split(",\\s*");
        for (Method method : MirrorWires.class.getDeclaredMethods()) {
            if (method.getName().equals(name) && method.getParameterCount() == words.length) {
                return answered(x, method, words);
            }
        }
        throw new IllegalArgumentException("no such call: " + call);
    }

    private static long answered(MirrorWires x, Method method, String[] words) {
        Object[] numbers = new Object[words.length];
        for (int w = 0; w < words.length; w++) {
            boolean isLong = method.getParameterTypes()[w] == long.class;
            numbers[w] = isLong ? (Object) Long.valueOf(words[w]) : (Object) Integer.valueOf(words[w]);
        }
        try {
            return (Integer) method.invoke(x, numbers);
        } catch (ReflectiveOperationException e) {
            throw new IllegalStateException(method.getName() + " threw", e);
        }
    }
}
