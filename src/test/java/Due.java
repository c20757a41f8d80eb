/** Counts the answers that are not as due, and ends the test with exit code 1 if there was one. */
final class Due {
    private int calls;
    private int wrong;

    void is(String what, long got, long want) {
        calls++;
        if (got != want) {
            wrong++;
            System.out.println(what + " answered " + got + ", due is " + want);
        }
    }

    void is(String what, boolean got, boolean want) {
        is(what, got ? 1 : 0, want ? 1 : 0);
    }

    void same(String what, String got, String want) {
        is(what, got.equals(want), true);
        if (!got.equals(want)) {
            System.out.println("  it was: " + got + "\n  due is: " + want);
        }
    }

    void end() {
        System.out.println(calls + " answers looked at, " + wrong + " not as due");
        if (wrong != 0 || calls == 0) {
            System.exit(1);
        }
    }
}
