/** Compares answers with those that are due, and tells the line of each one that differs. */
final class Check {
    private static int wrong = 0;
    private static int seen = 0;
    private static String part = "";

    private Check() {
    }

    static void part(String name) {
        part = name;
    }

    static void due(long got, long want) {
        seen++;
        if (got != want) {
            report("answered " + got + ", due is " + want);
        }
    }

    static void holds(boolean condition, String what) {
        seen++;
        if (!condition) {
            report(what);
        }
    }

    static void end() {
        System.out.println(seen + " answers looked at, " + wrong + " wrong");
        if (wrong != 0) {
            System.exit(1);
        }
    }

    private static void report(String what) {
        wrong++;
        StackTraceElement[] stack = new Throwable().getStackTrace();
        int at = 0;
        while (stack[at].getClassName().equals("Check") || stack[at].getMethodName().equals("due")) {
            at++;
        }
        System.out.println(part + ", " + stack[at].getFileName() + ":" + stack[at].getLineNumber() + ": " + what);
    }
}
