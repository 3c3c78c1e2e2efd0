import java.util.ArrayList;
import java.util.List;

/** Counts tests and says what is wrong in them. */
final class Check {
    interface Call { void run(); }

    private static final List<String> wrong = new ArrayList<>();
    private static final List<String> names = new ArrayList<>();
    private static int passed = 0;
    private static int failed = 0;

    private Check() { }

    static void test(String name, Call test) {
        wrong.clear();
        if (names.contains(name)) {
            wrong.add("another test has this name");
        }
        names.add(name);
        try {
            test.run();
        } catch (RuntimeException | Error e) {
            wrong.add("threw " + e + " at " + (e.getStackTrace().length == 0 ? "?" : e.getStackTrace()[0]));
        }
        if (wrong.isEmpty()) {
            passed++;
            return;
        }
        failed++;
        System.out.println("FAILED " + name);
        for (String line : wrong) {
            System.out.println("  " + line);
        }
    }

    static void same(String what, long got, long due) {
        if (got != due) {
            wrong.add(what + " answered " + got + ", due is " + due);
        }
    }

    static void same(String what, boolean got, boolean due) {
        if (got != due) {
            wrong.add(what + " answered " + got + ", due is " + due);
        }
    }

    static void same(String what, String got, String due) {
        if (!got.equals(due)) {
            wrong.add(what + " answered\n" + got + "due is\n" + due);
        }
    }

    static void outOfBounds(String what, Group x, Call call) {
        refused(what, x, call, IndexOutOfBoundsException.class);
    }

    static void illegalState(String what, Group x, Call call) {
        refused(what, x, call, IllegalStateException.class);
    }

    /** The call must throw just this class, from a throw of Causewaymail's own, and change nothing. */
    private static void refused(String what, Group x, Call call, Class<?> due) {
        String before = Snapshot.of(x);
        String thrown = thrownBy(call);
        if (!thrown.equals(due.getName())) {
            wrong.add(what + " threw " + thrown + ", due is " + due.getName());
        }
        same(what + " left", Snapshot.of(x), before);
    }

    /** The name of the class that a call throws; "nothing", or the place if the machine threw it. */
    static String thrownBy(Call call) {
        try {
            call.run();
        } catch (RuntimeException e) {
            StackTraceElement[] trace = e.getStackTrace();
            boolean own = trace.length > 0 && trace[0].getClassName().matches("Causewaymail(\\$.*)?|PlainGroup");
            return own ? e.getClass().getName() : e + " from the machine";
        }
        return "nothing";
    }

    static void wrong(String line) {
        wrong.add(line);
    }

    static boolean anythingWrong() {
        return !wrong.isEmpty();
    }

    /** How many tests so far name just this promise. */
    static int testsOf(int promise) {
        int count = 0;
        for (String name : names) {
            count += name.startsWith("promise " + promise + ": ") ? 1 : 0;
        }
        return count;
    }

    /** Prints the count and ends the program. */
    static void end() {
        System.out.println(passed + " passed, " + failed + " failed");
        System.exit(failed == 0 && passed > 0 ? 0 : 1);
    }
}
