/** What a test prints and how it ends: every answer that is not the one due, then exit code 1 if there was one. */
final class Checks {
    private int made;
    private int wrong;

    void due(String call, long got, long want) {
        made++;
        if (got != want) {
            wrong++;
            if (wrong <= 50) {
                System.out.println(call + " answered " + got + ", due is " + want);
            }
        }
    }

    void row(String call, long[] got, long... want) {
        made++;
        if (!java.util.Arrays.equals(got, want)) {
            wrong++;
            if (wrong <= 50) {
                System.out.println(call + " told " + java.util.Arrays.toString(got) + ", due is " + java.util.Arrays.toString(want));
            }
        }
    }

    void holds(String what, boolean so) {
        due(what, so ? 1 : 0, 1);
    }

    void end() {
        System.out.println(made + " answers, " + wrong + " not as due");
        if (wrong != 0 || made == 0) {
            System.exit(1);
        }
    }
}
