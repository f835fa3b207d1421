/** Counts and prints the calls whose answer is not the one that is due. */
final class Check {
    private int calls;
    private int wrong;
    private String about = "";

    void about(String text) {
        about = text;
    }

    void due(String call, long got, long want) {
        calls++;
        if (got != want) {
            wrong++;
            System.out.println(about + ": " + call + " answered " + got + ", due is " + want);
        }
    }

    void due(String call, boolean got, boolean want) {
        due(call, got ? 1 : 0, want ? 1 : 0);
    }

    void that(String what, boolean holds) {
        calls++;
        if (!holds) {
            wrong++;
            System.out.println(about + ": " + what);
        }
    }

    int wrong() {
        return wrong;
    }

    void end() {
        System.out.println(wrong + " of " + calls + " answers are not as due");
        if (wrong != 0) {
            System.exit(1);
        }
    }
}
