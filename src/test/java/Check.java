/** Counts the answers that aren't due, and tells them. */
final class Check {
    private final String name;
    private int done;
    private int wrong;

    Check(String name) {
        this.name = name;
    }

    void due(String call, long got, long want) {
        done++;
        if (got != want) {
            wrong++;
            System.out.println(name + ": " + call + " answered " + got + ", due is " + want);
        }
    }

    void due(String call, boolean got, boolean want) {
        due(call, got ? 1 : 0, want ? 1 : 0);
    }

    void that(String what, boolean holds) {
        done++;
        if (!holds) {
            wrong++;
            System.out.println(name + ": it doesn't hold that " + what);
        }
    }

    boolean isGood() {
        return wrong == 0;
    }

    void end() {
        System.out.println(name + ": " + (done - wrong) + " of " + done + " answers are as due");
        if (wrong > 0 || done == 0) {
            System.exit(1);
        }
    }
}
