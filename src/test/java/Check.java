import java.util.Arrays;

/** Counts the checks of one test and ends it: exit code 1, if an answer was not as due. */
final class Check {
    private final String name;
    private int checks = 0;
    private int wrong = 0;

    Check(String name) {
        this.name = name;
    }

    void due(String call, long got, long want) {
        checks++;
        if (got != want) {
            wrong++;
            System.out.println(name + ": " + call + " answered " + got + ", due is " + want);
        }
    }

    void same(String what, int[] got, int[] want) {
        checks++;
        if (!Arrays.equals(got, want)) {
            wrong++;
            System.out.println(name + ": " + what + " is " + Arrays.toString(got)
                + ", due is " + Arrays.toString(want));
        }
    }

    void holds(String what, boolean it) {
        checks++;
        if (!it) {
            wrong++;
            System.out.println(name + ": " + what + " does not hold");
        }
    }

    int wrong() {
        return wrong;
    }

    void end() {
        System.out.println(name + ": " + checks + " checks, " + wrong + " wrong");
        if (wrong != 0) {
            System.exit(1);
        }
    }
}
