import java.lang.reflect.InvocationTargetException;
import java.lang.reflect.Method;
import java.util.ArrayList;
import java.util.HashMap;
import java.util.List;
import java.util.Map;

/**
 * Runs rows of calls on new objects and compares their answers. A row is
 * 'toss(0, 1) = NOT', with '40 x ' ahead if it is called 40 times, and with '! ' ahead of all if it
 * must change nothing; 'text sorts 1;' feeds a text. Numbers may be told as NONE, MIN, MAX and the refusals.
 */
final class Rows {
    /** What an object answers behind so many calls is free, so no test may go on that far. */
    private static final int CALLS_MOST = 512;

    /** Each look is at the end of an object's life, so that it may go back to images and read the text. */
    private static final int LOOKS = 4;

    private static final Map<String, Method> CALLS = new HashMap<>();
    private static final Map<String, Long> NAMES = new HashMap<>();

    private static String promise = "";
    private static int edges = 0;
    private static int answers = 0;
    private static int wrong = 0;

    static {
        for (Method m : CastOffs.class.getDeclaredMethods()) {
            CALLS.put(m.getName(), m);
        }
        NAMES.put("NONE", -1L);
        NAMES.put("UNKNOWN", -1000000001L);
        NAMES.put("OUTSIDE", -1000000002L);
        NAMES.put("NOT", -1000000003L);
        NAMES.put("FULL", -1000000004L);
        NAMES.put("MIN", (long) Integer.MIN_VALUE);
        NAMES.put("MAX", (long) Integer.MAX_VALUE);
    }

    private final CastOffs object = new CastOffs();
    private int calls = 0;

    private Rows() {
    }

    static void promise(String name) {
        promise = name;
    }

    /** One sentence of the document: on the spit of a text (none, if it is empty) the rows are as due. */
    static void edge(String sentence, String text, String... rows) {
        edges++;
        Rows run = onSpit(sentence, text);
        for (String row : rows) {
            run.check(sentence, row);
        }
        for (int i = 0; i < rows.length; i++) {
            if (rows[i].startsWith("! ")) {
                changesNothing(sentence, text, rows, i);
            }
        }
        if (run.calls > CALLS_MOST) {
            tell(sentence, "it takes " + run.calls + " calls");
        }
    }

    /** The text has that fault at that byte, and all is as it was, but for the text. */
    static void faultAt(String sentence, int kind, int at, String text) {
        edge(sentence, "sorts 2;house 7 0 1;house 8;worth 1 0 5;",
                "toss(0, 0) = 1", "week(1) = 1", "keep(1) = 1", "seed(77) = 0", "write(0, 1, false) = 1",
                "text " + text, "spit() = " + (-10 - kind), "fault() = " + at,
                "told(0) = 2", "told(1) = 2", "told(2) = 2", "told(3) = 0", "told(4) = 1", "told(5) = 1", "told(6) = 1",
                "told(7) = 1", "worth(1, 0) = 5", "house(0, 0) = 7", "house(1, 0) = 8", "part(0, 1) = 1",
                "part(0, 3) = 2", "part(1, 2) = 0", "judge() = 0", "seed(5) = 77",
                "goBack(0) = NOT", "goBack(1) = 1", "seed(5) = 0", "told(4) = 1");
    }

    static void sound(String sentence, int parts, String text) {
        edge(sentence, "", "text " + text, "told(3) = " + text.length(), "spit() = " + parts, "fault() = NONE",
                "told(2) = " + parts, "told(3) = 0");
    }

    static void holds(String sentence, boolean is) {
        edges++;
        if (!is) {
            tell(sentence, "it is not so");
        }
    }

    static void end() {
        System.out.println(edges + " edges, " + answers + " answers: "
                + (wrong == 0 ? "all are as due" : wrong + " are not as due"));
        if (wrong != 0) {
            System.exit(1);
        }
    }

    private static void tell(String sentence, String fault) {
        wrong++;
        System.out.println(promise + ": " + sentence + ": " + fault);
    }

    private static Rows onSpit(String sentence, String text) {
        Rows run = new Rows();
        if (!text.isEmpty()) {
            run.feedAll(text);
            if (run.call("spit()") < 0) {
                tell(sentence, "the spit has a fault: " + text);
            }
        }
        return run;
    }

    /** Two objects of the same rows, the one with the row and the other without it, look alike. */
    private static void changesNothing(String sentence, String text, String[] rows, int at) {
        for (int look = 0; look < LOOKS; look++) {
            Rows without = replay(sentence, text, rows, at);
            Rows with = replay(sentence, text, rows, at);
            with.run(rows[at].substring(2));
            String seen = with.look(look);
            if (!seen.equals(without.look(look))) {
                tell(sentence, rows[at] + " changed something (look " + look + ")");
            }
            if (with.calls > CALLS_MOST) {
                tell(sentence, "the look takes " + with.calls + " calls");
            }
        }
    }

    private static Rows replay(String sentence, String text, String[] rows, int until) {
        Rows run = onSpit(sentence, text);
        for (int i = 0; i < until; i++) {
            if (!rows[i].startsWith("! ")) {
                run.run(rows[i]);
            }
        }
        return run;
    }

    private void check(String sentence, String row) {
        String plain = row.startsWith("! ") ? row.substring(2) : row;
        String[] sides = plain.split(" = ");
        List<Integer> got = run(plain);
        if (plain.startsWith("text ") || sides.length < 2) {
            return;
        }
        long want = number(sides[1]);
        for (int answer : got) {
            answers++;
            if (answer != want) {
                tell(sentence, row + ", answered " + answer);
            }
        }
    }

    private List<Integer> run(String row) {
        List<Integer> got = new ArrayList<>();
        if (row.startsWith("text ")) {
            feedAll(row.substring(5));
            return got;
        }
        String call = row.split(" = ")[0];
        int times = 1;
        int x = call.indexOf(" x ");
        if (x >= 0) {
            times = Integer.parseInt(call.substring(0, x));
            call = call.substring(x + 3);
        }
        for (int i = 0; i < times; i++) {
            got.add(call(call));
        }
        return got;
    }

    private void feedAll(String text) {
        for (int i = 0; i < text.length(); i += 8) {
            String piece = text.substring(i, Math.min(text.length(), i + 8));
            long bytes = 0;
            for (int j = 0; j < piece.length(); j++) {
                bytes = bytes << 8 | piece.charAt(j);
            }
            calls++;
            object.feed(piece.length(), bytes);
        }
    }

    private int call(String call) {
        String name = call.substring(0, call.indexOf('('));
        String inside = call.substring(call.indexOf('(') + 1, call.lastIndexOf(')'));
        String[] told = inside.isEmpty() ? new String[0] : inside.split(", *");
        Method method = CALLS.get(name);
        Class<?>[] types = method.getParameterTypes();
        Object[] values = new Object[types.length];
        for (int i = 0; i < types.length; i++) {
            values[i] = value(types[i], told[i]);
        }
        calls++;
        try {
            return (Integer) method.invoke(object, values);
        } catch (InvocationTargetException | IllegalAccessException e) {
            throw new IllegalStateException(promise + ": " + call, e);
        }
    }

    private static Object value(Class<?> type, String told) {
        if (type == boolean.class) {
            return told.equals("true");
        }
        return type == long.class ? (Object) number(told) : (Object) (int) number(told);
    }

    private static long number(String told) {
        if (NAMES.containsKey(told)) {
            return NAMES.get(told);
        }
        return told.startsWith("0x") ? Long.parseUnsignedLong(told.substring(2), 16) : Long.parseLong(told);
    }

    private String look(int kind) {
        StringBuilder seen = new StringBuilder();
        if (kind == 1 || kind == 2) {
            see(seen, "goBack(" + (kind - 1) + ")");
        }
        if (kind == 3) {
            see(seen, "judge()");
            see(seen, "tear()");
            see(seen, "spit()");
        }
        see(seen, "fault()");
        see(seen, "seed(0)");
        lookAtAll(seen);
        return seen.toString();
    }

    private void lookAtAll(StringBuilder seen) {
        for (int what = 0; what <= 7; what++) {
            see(seen, "told(" + what + ")");
        }
        int houses = call("told(1)");
        int sorts = call("told(0)");
        int parts = call("told(2)");
        for (int h = 0; h < houses; h++) {
            see(seen, "house(" + h + ", 0)");
            see(seen, "house(" + h + ", 1)");
            for (int k = 0; k < sorts; k++) {
                see(seen, "worth(" + h + ", " + k + ")");
            }
        }
        for (int p = 0; p < parts; p++) {
            for (int what = 0; what <= 3; what++) {
                see(seen, "part(" + p + ", " + what + ")");
            }
            int hands = call("part(" + p + ", 3)");
            for (int i = 0; i < hands; i++) {
                see(seen, "hand(" + p + ", " + i + ")");
            }
        }
    }

    private void see(StringBuilder seen, String call) {
        seen.append(call).append('=').append(call(call)).append(' ');
    }
}
