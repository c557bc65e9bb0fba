import java.lang.reflect.InvocationTargetException;
import java.lang.reflect.Method;
import java.util.ArrayList;
import java.util.HashMap;
import java.util.List;
import java.util.Map;
import java.util.regex.Matcher;
import java.util.regex.Pattern;

/**
 * One object of the class that is called by texts such as "addThread(0,1)". It counts its calls:
 * only 512 are promised, so a test that needs more of them is itself at fault.
 */
final class Called {
    static final int MOST_CALLS = 512;
    private static final Pattern CALL = Pattern.compile("(\\w+)\\(([^)]*)\\)");
    private static final Map<String, Integer> NAMES = Map.of("MIN", Integer.MIN_VALUE, "MAX", Integer.MAX_VALUE,
        "UNKNOWN", -1, "BAD_VALUE", -2, "FULL", -3, "NOT_POSSIBLE", -4, "NONE", -5);
    private static final Map<String, Method> METHODS = new HashMap<>();

    static {
        for (Method m : KnotStripes.class.getDeclaredMethods()) {
            METHODS.put(m.getName(), m);
        }
    }

    private final KnotStripes x = new KnotStripes();
    private int calls = 0;

    static int number(String word) {
        String name = word.trim();
        return NAMES.containsKey(name) ? NAMES.get(name) : Integer.parseInt(name);
    }

    int calls() {
        return calls;
    }

    int ask(String name, int... arguments) {
        calls++;
        if (calls > MOST_CALLS) {
            throw new IllegalStateException("the test makes more calls than are promised");
        }
        Method m = METHODS.get(name);
        Object[] values = new Object[arguments.length];
        for (int i = 0; i < arguments.length; i++) {
            if (m.getParameterTypes()[i] == char.class) {
                values[i] = (char) arguments[i];
            } else {
                values[i] = arguments[i];
            }
        }
        try {
            return (int) m.invoke(x, values);
        } catch (InvocationTargetException thrown) {
            throw new IllegalStateException(name + " threw " + thrown.getCause(), thrown);
        } catch (IllegalAccessException hidden) {
            throw new IllegalStateException(hidden);
        }
    }

    /** One call, as a text. */
    int tell(String call) {
        Matcher parts = CALL.matcher(call);
        if (!parts.matches()) {
            throw new IllegalStateException("no call: " + call);
        }
        List<Integer> numbers = new ArrayList<>();
        for (String word : parts.group(2).isBlank() ? new String[0] : parts.group(2).split(",")) {
            numbers.add(number(word));
        }
        return ask(parts.group(1), numbers.stream().mapToInt(i -> i).toArray());
    }

    /**
     * Calls one after another, none of which may be refused. Beside the calls of the class there are
     * knots(14) and ties(0-1,2-3), which add as many; paints(0,1,-), which paints the threads from 0
     * on; empty(), which removes all knots; and write(0-1), which makes this the text.
     */
    void run(String manyCalls) {
        Matcher call = CALL.matcher(manyCalls);
        while (call.find()) {
            String words = call.group(2);
            switch (call.group(1)) {
                case "knots": addKnots(number(words)); break;
                case "ties": addThreads(words.split(",")); break;
                case "paints": paint(words.split(",")); break;
                case "empty": removeKnots(); break;
                case "write": write(words); break;
                default: taken(call.group(), tell(call.group())); break;
            }
        }
    }

    private static void taken(String call, int answer) {
        if (answer < 0) {
            throw new IllegalStateException(call + " was refused ahead of what is tried: " + answer);
        }
    }

    private void addKnots(int many) {
        for (int i = 0; i < many; i++) {
            taken("addKnot()", ask("addKnot"));
        }
    }

    private void addThreads(String[] threads) {
        for (String thread : threads) {
            String[] ends = thread.trim().split("-");
            taken("addThread of " + thread, ask("addThread", number(ends[0]), number(ends[1])));
        }
    }

    private void paint(String[] colours) {
        for (int thread = 0; thread < colours.length; thread++) {
            if (!colours[thread].trim().equals("-")) {
                taken("paint of " + thread, ask("paint", thread, number(colours[thread])));
            }
        }
    }

    private void removeKnots() {
        for (int rest = ask("count", 0); rest > 0; rest--) {
            taken("removeKnot", ask("removeKnot", rest - 1));
        }
    }

    private void write(String text) {
        taken("clearText()", ask("clearText"));
        for (char sign : text.toCharArray()) {
            taken("type of " + sign, ask("type", sign));
        }
    }

    /** The net as the threads between its knots, with their colours: "3 knots 0-1:2 1-2". */
    String net() {
        int knots = ask("count", 0);
        int threads = ask("count", 1);
        int[] at = new int[Math.max(0, knots)];
        for (int knot = 0; knot < knots; knot++) {
            at[knot] = ask("knot", knot, 0);
        }
        StringBuilder told = new StringBuilder(knots + " knots");
        for (int thread = 0; thread < threads; thread++) {
            String dash = " ";
            for (int knot = 0; knot < knots; knot++) {
                if ((at[knot] >> thread & 1) == 1) {
                    told.append(dash).append(knot);
                    dash = "-";
                }
            }
            int colour = ask("thread", thread, 2);
            told.append(colour == -5 ? "" : ":" + colour);
        }
        return told.toString();
    }
}
