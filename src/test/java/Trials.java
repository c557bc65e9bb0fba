import java.lang.reflect.InvocationTargetException;
import java.lang.reflect.Method;
import java.util.Arrays;
import java.util.Comparator;
import java.util.List;

/**
 * What the tests of the boundary cases have in common. Each case is tried twice: on a new object, and
 * on one whose history is full and that has a snapshot and a text. A twin, on which the call is not
 * made, tells what the object must still hold behind the call.
 */
final class Trials {
    private static final int MOST_STATES = 4;
    private static final int NONE = -5;
    private static final List<String> BEFORE = List.of("",
        "take(3) paint(0,2) keep() take(0) paint(0,1) empty() write(0-1,0-2) ");

    private static int wrong = 0;
    private static String test = "";
    private static String made = "";

    private Trials() {
    }

    static void due(String what, int got, int due) {
        same(what, got, due);
    }

    private static void same(String what, Object got, Object due) {
        if (!got.equals(due)) {
            wrong++;
            System.out.println(test + ": " + what + " answered [" + got + "], due is [" + due + "], after " + made);
        }
    }

    private static Called madeBy(String calls) {
        Called x = new Called();
        x.run(calls);
        made = "[" + calls + "]";
        return x;
    }

    /** "addKnot() = 0": the call, and the answer that is due. */
    private static void answers(Called x, String row) {
        int at = row.lastIndexOf(" = ");
        String call = row.substring(0, at);
        same(call, x.tell(call), Called.number(row.substring(at + 3)));
    }

    /** Makes an object; each row is a call with its answer, or calls without, which may not be refused. */
    static void run(String... rows) {
        Called x = madeBy("");
        for (String row : rows) {
            if (row.contains(" = ")) {
                answers(x, row);
            } else {
                x.run(row);
            }
            made = made + " " + row;
        }
    }

    /** The calls answer so and change nothing: queries, and acts that are refused. */
    static void unchanged(String calls, String... rows) {
        for (String before : BEFORE) {
            Called twin = madeBy(before + calls);
            Called x = madeBy(before + calls);
            for (String row : rows) {
                answers(x, row);
            }
            sameNow(x, twin);
            sameHistory(x, twin);
            same("undo() at the end", x.ask("undo"), NONE);
            same("undo() of the twin at the end", twin.ask("undo"), NONE);
            sameSnapshotAndText(x, twin);
        }
    }

    /** The call answers so, makes the net so, and the history has the state before it. */
    static void acted(String calls, String row, String net) {
        for (String before : BEFORE) {
            Called twin = madeBy(before + calls);
            Called x = madeBy(before + calls);
            answers(x, row);
            same("the net behind " + row, x.net(), net);
            int states = Math.min(MOST_STATES, twin.ask("count", 9) + 1);
            same("count(9) behind " + row, x.ask("count", 9), states);
            same("undo() behind " + row, x.ask("undo"), states - 1);
            same("count(10) behind " + row, x.ask("count", 10), twin.ask("count", 10));
            same("the net behind undo()", x.net(), twin.net());
            sameHistory(x, twin);
            same("undo() at the end", x.ask("undo"), NONE);
            sameSnapshotAndText(x, twin);
        }
    }

    private static void sameNow(Called x, Called twin) {
        same("the net", x.net(), twin.net());
        same("count(9)", x.ask("count", 9), twin.ask("count", 9));
        same("count(10)", x.ask("count", 10), twin.ask("count", 10));
    }

    /** All states that x still has. */
    private static void sameHistory(Called x, Called twin) {
        int states = x.ask("count", 9);
        for (int left = states - 1; left >= 0 && left < MOST_STATES; left--) {
            same("undo() to " + left, x.ask("undo"), left);
            twin.ask("undo");
            same("the net behind undo() to " + left, x.net(), twin.net());
        }
    }

    private static void sameSnapshotAndText(Called x, Called twin) {
        same("restore() at the end", x.ask("restore"), twin.ask("restore"));
        same("the net of the snapshot", x.net(), twin.net());
        same("readNet() at the end", x.ask("readNet"), twin.ask("readNet"));
        same("the net of the text", x.net(), twin.net());
        same("clearText() at the end", x.ask("clearText"), twin.ask("clearText"));
    }

    /** Runs all tests of a class: its methods that are named after a promise. */
    static void runAll(Class<?> tests) {
        Method[] methods = tests.getDeclaredMethods();
        Arrays.sort(methods, Comparator.comparing(Method::getName));
        int ran = 0;
        for (Method m : methods) {
            if (m.getName().startsWith("promise")) {
                runOne(m);
                ran++;
            }
        }
        System.out.println(tests.getName() + ": " + ran + " boundary cases, " + wrong + " answers are not as due");
        if (wrong != 0 || ran == 0) {
            System.exit(1);
        }
    }

    private static void runOne(Method m) {
        test = m.getName();
        made = "";
        try {
            m.invoke(null);
        } catch (InvocationTargetException thrown) {
            wrong++;
            System.out.println(test + ": " + thrown.getCause() + ", after " + made);
        } catch (IllegalAccessException hidden) {
            throw new IllegalStateException(hidden);
        }
    }
}
