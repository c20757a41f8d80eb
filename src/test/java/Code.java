/** Short names for instructions, and ways to bring them into an object. */
final class Code {
    static final int BAD = SwitchedModules.BAD;
    static final int NO = SwitchedModules.NO;
    static final int FULL = SwitchedModules.FULL;
    static final int MIN = Integer.MIN_VALUE;
    static final int MAX = Integer.MAX_VALUE;

    private Code() {
    }

    static int[] ret(int a) {
        return new int[] {0, a, 0, 0};
    }

    static int[] set(int a, int b) {
        return new int[] {1, a, b, 0};
    }

    static int[] add(int a, int b, int c) {
        return new int[] {2, a, b, c};
    }

    static int[] sub(int a, int b, int c) {
        return new int[] {3, a, b, c};
    }

    static int[] jump(int a, int b) {
        return new int[] {4, a, b, 0};
    }

    static int[] call(int a, int b, int c) {
        return new int[] {5, a, b, c};
    }

    static int[] make(int a, int b) {
        return new int[] {6, a, b, 0};
    }

    static int[] get(int a, int b, int c) {
        return new int[] {7, a, b, c};
    }

    static int[] put(int a, int b, int c) {
        return new int[] {8, a, b, c};
    }

    static int[] load(int a, int b) {
        return new int[] {9, a, b, 0};
    }

    static int[] keep(int a, int b) {
        return new int[] {10, a, b, 0};
    }

    static int[] await(int a) {
        return new int[] {11, a, 0, 0};
    }

    static int[] point(int a) {
        return new int[] {12, a, 0, 0};
    }

    /** Makes procedure p of the draft just these instructions. */
    static void write(SwitchedModules x, int p, int[]... words) {
        for (int i = 0; i < words.length; i++) {
            x.word(p, i, words[i][0], words[i][1], words[i][2], words[i][3]);
        }
        x.cut(p, words.length);
    }

    /** Stages the draft and lets it take the place; a test that sets up wrongly stops here. */
    static void switchOver(SwitchedModules x) {
        int staged = x.stage();
        int taken = x.attempt(MAX);
        if (staged != 0 || taken != 1) {
            throw new IllegalStateException("stage() answered " + staged + ", attempt() " + taken);
        }
    }

    /** A new object whose present version has procedure 0 with these instructions, and types of 2, 4 and 1 fields. */
    static SwitchedModules running(int[]... words) {
        return runningAll(words);
    }

    /** The same with procedures 0, 1 and so on; one of no instructions is not there. */
    static SwitchedModules runningAll(int[][]... procedures) {
        SwitchedModules x = new SwitchedModules();
        x.fields(0, 2);
        x.fields(1, 4);
        x.fields(2, 1);
        for (int p = 0; p < procedures.length; p++) {
            write(x, p, procedures[p]);
        }
        switchOver(x);
        return x;
    }
}
