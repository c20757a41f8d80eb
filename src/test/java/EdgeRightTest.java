/** When an instruction is RIGHT: for each part of that sentence the last value that is and the first that is not. */
public final class EdgeRightTest {
    private static final Due DUE = new Due();
    /** An instruction of each kind that is right where right() puts it; which of a, b and c are locals stands below. */
    private static final int[][] WORDS = {Code.ret(1), Code.set(1, 5), Code.add(1, 1, 1), Code.sub(1, 1, 1),
        Code.jump(1, 1), Code.call(1, 0, 1), Code.make(1, 0), Code.get(1, 1, 0), Code.put(1, 1, 0), Code.load(1, 1),
        Code.keep(1, 1), Code.await(1), Code.point(1)};
    private static final String[] LOCALS = {"a", "a", "abc", "abc", "a", "ac", "a", "ab", "ab", "a", "a", "a", ""};
    /** Parts that the document asks nothing of. */
    private static final String[] FREE = {"bc", "bc", "", "", "c", "", "c", "", "", "c", "c", "bc", "bc"};
    private static final int[] FAR = {Code.MIN, -100, -13, -12, -4, -3, -2, -1, 0, 1, 2, 3, 4, 5, 6, 7, 8, 11, 12, 13,
        16, 100, Code.MAX};

    public static void main(String[] args) {
        localsAre0To2();
        partsThatAreFree();
        opIs0To12();
        jumpIsLessThanTheLength();
        procedureOfCallIsThere();
        typeOfNewIsThere();
        fieldOfGetAndPutIsOne();
        globalOfLoadAndKeepIs0To3();
        pointIs0To3();
        lastInstructionIsReturn();
        lastInstructionIsRightToo();
        rightInTheDraftNotInThePresentVersion();
        DUE.end();
    }

    /** Puts it at place 1 of 3 in procedure 2; 0 and 5 are there besides, type 0 has one field and type 2 has four. */
    private static void right(int[] word, boolean want) {
        SwitchedModules x = new SwitchedModules();
        x.fields(0, 1);
        x.fields(2, 4);
        Code.write(x, 0, Code.ret(0));
        Code.write(x, 2, Code.set(0, 0), word, Code.ret(0));
        Code.write(x, 5, Code.ret(0));
        String what = "op " + word[0] + ", " + word[1] + " " + word[2] + " " + word[3];
        DUE.is(what, x.stage(), want ? 0 : -125);
        DUE.is(what + ", is it staged", x.withdraw(), want);
    }

    private static int[] with(int[] word, int at, int v) {
        int[] other = word.clone();
        other[at] = v;
        return other;
    }

    private static boolean has(String parts, int at) {
        return parts.indexOf(" abc".charAt(at)) >= 0;
    }

    /** "An instruction is RIGHT in a version when all its locals are 0 .. 2" */
    private static void localsAre0To2() {
        for (int op = 0; op <= 12; op++) {
            for (int at = 1; at <= 3; at++) {
                for (int v : FAR) {
                    if (has(LOCALS[op], at)) {
                        right(with(WORDS[op], at, v), v >= 0 && v <= 2);
                    }
                }
            }
        }
    }

    /** The same sentence: what is no local, and is not named after it, may be any int. */
    private static void partsThatAreFree() {
        for (int op = 0; op <= 12; op++) {
            for (int at = 1; at <= 3; at++) {
                for (int v : FAR) {
                    if (has(FREE[op], at)) {
                        right(with(WORDS[op], at, v), true);
                    }
                }
            }
        }
    }

    /** "op is 0 .. 12" */
    private static void opIs0To12() {
        for (int op = 0; op <= 12; op++) {
            right(WORDS[op], true);
        }
        for (int op : new int[] {Code.MIN, -2, -1, 13, 14, Code.MAX}) {
            right(new int[] {op, 0, 0, 0}, false);
        }
    }

    /** "b of 4 is less than the procedure's length"; a place below 0 is none, so it is not right, either. */
    private static void jumpIsLessThanTheLength() {
        for (int length = 2; length <= 12; length++) {
            for (int b : new int[] {Code.MIN, -1, 0, length - 1, length, length + 1, 12, Code.MAX}) {
                SwitchedModules x = new SwitchedModules();
                for (int i = 0; i < length - 1; i++) {
                    x.word(1, i, 12, 0, 0, 0);
                }
                x.word(1, length - 1, 0, 0, 0, 0);
                x.word(1, length - 2, 4, 0, b, 0);
                int want = b >= 0 && b < length ? 0 : -100 - (12 + length - 2);
                DUE.is("JUMP to " + b + " of " + length, x.stage(), want);
            }
        }
        SwitchedModules x = new SwitchedModules();
        Code.write(x, 0, Code.jump(0, 2), Code.set(0, 0), Code.ret(0));
        x.cut(0, 2);
        x.word(0, 1, 0, 0, 0, 0);
        DUE.is("the length that it has after a cut", x.stage(), -100);
        x.word(0, 2, 0, 0, 0, 0);
        DUE.is("and when it has grown again", x.stage(), 0);
    }

    /** "the procedure of 5 .. there" */
    private static void procedureOfCallIsThere() {
        for (int b : FAR) {
            right(Code.call(1, b, 1), b == 0 || b == 2 || b == 5);
        }
        for (int there = 0; there <= 5; there++) {
            for (int b = 0; b <= 5; b++) {
                SwitchedModules x = new SwitchedModules();
                Code.write(x, there, Code.call(0, b, 0), Code.ret(0));
                DUE.is("CALL of " + b + " in " + there, x.stage(), b == there ? 0 : -100 - 12 * there);
            }
        }
    }

    /** "the types of 6 .. are there" */
    private static void typeOfNewIsThere() {
        for (int b : FAR) {
            right(Code.make(1, b), b == 0 || b == 2);
        }
    }

    /** "the types of .. 7, 8 are there, c % 4 is a field of the type (c is 0 or more)" */
    private static void fieldOfGetAndPutIsOne() {
        for (int c : FAR) {
            boolean want = c == 0 || c >= 8 && c <= 11;
            right(Code.get(1, 1, c), want);
            right(Code.put(1, 1, c), want);
        }
        for (int t = 0; t <= 2; t++) {
            for (int n = 0; n <= 4; n++) {
                for (int c = -1; c <= 12; c++) {
                    SwitchedModules x = new SwitchedModules();
                    x.fields(t, n);
                    Code.write(x, 0, Code.get(0, 0, c), Code.ret(0));
                    Code.write(x, 1, Code.put(0, 0, c), Code.ret(0));
                    boolean want = c >= 4 * t && c < 4 * t + n;
                    DUE.is("GET " + c + ", type " + t + " of " + n, x.stage(), want ? 0 : -100);
                    x.withdraw();
                    x.cut(0, 0);
                    DUE.is("PUT " + c + ", type " + t + " of " + n, x.stage(), want ? 0 : -112);
                }
            }
        }
    }

    /** "the global of 9 and 10 is 0 .. 3" */
    private static void globalOfLoadAndKeepIs0To3() {
        for (int b : FAR) {
            right(Code.load(1, b), b >= 0 && b <= 3);
            right(Code.keep(1, b), b >= 0 && b <= 3);
        }
    }

    /** "and a of 12 is 0 .. 3" */
    private static void pointIs0To3() {
        for (int a : FAR) {
            right(Code.point(a), a >= 0 && a <= 3);
        }
    }

    /** "the last instruction of a procedure is 0." */
    private static void lastInstructionIsReturn() {
        for (int p = 0; p <= 5; p++) {
            for (int length = 1; length <= 12; length++) {
                for (int op = 0; op <= 12; op++) {
                    SwitchedModules x = new SwitchedModules();
                    x.fields(0, 1);
                    for (int i = 0; i < length; i++) {
                        x.word(p, i, 0, 0, 0, 0);
                    }
                    x.word(p, length - 1, op, 0, op == 5 ? p : 0, 0);
                    int want = op == 0 ? 0 : -100 - (12 * p + length - 1);
                    DUE.is("the last of " + length + " is " + op, x.stage(), want);
                }
            }
        }
    }

    /** The same: a RETURN at the end has to be right as any other. */
    private static void lastInstructionIsRightToo() {
        for (int a : FAR) {
            SwitchedModules x = new SwitchedModules();
            Code.write(x, 3, Code.ret(0), Code.ret(a));
            DUE.is("RETURN " + a + " at the end", x.stage(), a >= 0 && a <= 2 ? 0 : -137);
        }
    }

    /** "RIGHT in a version": of the draft it is what the draft has that counts. */
    private static void rightInTheDraftNotInThePresentVersion() {
        SwitchedModules x = Code.runningAll(new int[][] {Code.make(0, 0), Code.get(0, 0, 1), Code.ret(0)},
            new int[][] {Code.call(0, 2, 0), Code.ret(0)}, new int[][] {Code.ret(0)});
        x.fields(0, 1);
        DUE.is("a field that the draft has no more", x.stage(), -101);
        x.fields(0, 0);
        DUE.is("a type that the draft has no more", x.stage(), -100);
        x.fields(0, 2);
        x.cut(2, 0);
        DUE.is("a procedure that the draft has no more", x.stage(), -112);
        x.fields(0, 4);
        x.word(0, 1, 7, 0, 0, 3);
        x.word(1, 0, 5, 0, 3, 0);
        x.word(3, 0, 0, 0, 0, 0);
        DUE.is("a field and a procedure that only the draft has", x.stage(), 0);
    }
}
