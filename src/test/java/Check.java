/** Counts wrong answers, says which, and ends a test with exit code 1 if there was one. */
final class Check {
    private int wrong = 0;
    private int right = 0;
    private String part = "";
    /** Mutants asks only whether a test finds anything. */
    private final boolean endAtFirst = Boolean.getBoolean("first");

    void part(String name) {
        part = name;
    }

    void is(String call, long got, long due) {
        if (got == due) {
            right++;
            return;
        }
        wrong++;
        if (wrong <= 50) {
            System.out.println(part + ": " + call + " answered " + got + ", due is " + due);
        }
        endIfAsked();
    }

    void holds(String what, boolean is) {
        if (is) {
            right++;
            return;
        }
        wrong++;
        System.out.println(part + ": not so: " + what);
        endIfAsked();
    }

    private void endIfAsked() {
        if (endAtFirst) {
            end();
        }
    }

    void end() {
        System.out.println(right + " answers as due, " + wrong + " not");
        if (wrong > 0) {
            System.exit(1);
        }
    }
}
