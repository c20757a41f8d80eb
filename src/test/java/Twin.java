/** Two objects made alike, of which one is asked something that it refuses: all that they do afterwards is the same. */
final class Twin {
    interface Maker {
        SwitchedModules make();
    }

    interface Call {
        int on(SwitchedModules x);
    }

    private Twin() {
    }

    static int bit(boolean b) {
        return b ? 1 : 0;
    }

    static void refuses(Due due, String what, Maker maker, int answer, Call call) {
        SwitchedModules asked = maker.make();
        SwitchedModules other = maker.make();
        due.is(what, call.on(asked), answer);
        due.same(what + ", nothing is done", afterwards(asked), afterwards(other));
    }

    /** A version with tasks at a point, ended and with a fault, two objects in globals, and a draft with rules. */
    static SwitchedModules busy() {
        SwitchedModules x = Code.runningAll(
            new int[][] {Code.make(1, 0), Code.put(1, 0, 0), Code.keep(1, 0), Code.make(2, 1), Code.keep(2, 1),
                Code.put(2, 0, 7), Code.point(1), Code.await(2), Code.add(0, 0, 2), Code.ret(0)},
            new int[][] {Code.ret(0)},
            new int[][] {Code.call(0, 2, 0), Code.ret(0)});
        x.spawn(0, 21);
        x.step(1, 6);
        x.spawn(1, 9);
        x.step(2, 1);
        x.spawn(2, 0);
        x.step(3, 9);
        x.send(1, 4);
        x.send(1, 5);
        x.word(3, 0, 1, 2, 8, 0);
        x.word(3, 1, 0, 2, 0, 0);
        x.fields(0, 3);
        x.rule(0, 0, 1, 0, 1);
        x.rule(0, 2, 2, 0, 100);
        x.rule(1, 3, 1, 3, 5);
        return x;
    }

    static SwitchedModules busyAndStaged() {
        SwitchedModules x = busy();
        if (x.stage() != 0) {
            throw new IllegalStateException("the draft is not right");
        }
        return x;
    }

    /** As above, with all six tasks there: 4 waits with a full queue, and 5 and 6 have not yet run. */
    static SwitchedModules busyAndFull() {
        SwitchedModules x = busy();
        x.spawn(0, 22);
        x.spawn(1, 23);
        x.spawn(1, 24);
        x.step(4, 20);
        for (int i = 0; i < 8; i++) {
            x.send(4, i);
        }
        return x;
    }

    private static String afterwards(SwitchedModules x) {
        StringBuilder text = new StringBuilder(View.of(x));
        text.append("; stage ").append(x.stage()).append(": ").append(View.of(x));
        text.append("; attempt ").append(x.attempt(1000)).append(" withdraw ").append(x.withdraw());
        draft(x, text);
        for (int task = 1; task <= 6; task++) {
            text.append("; send ").append(x.send(task, 7));
        }
        for (int p = 0; p < 4; p++) {
            text.append("; spawn ").append(x.spawn(p, 3));
        }
        for (int task = 1; task <= 6; task++) {
            text.append("; step ").append(x.step(task, 200));
        }
        return text.append(": ").append(View.of(x)).toString();
    }

    /** The draft's lengths, and how many fields its types have. */
    private static void draft(SwitchedModules x, StringBuilder text) {
        for (int p = 0; p < 6; p++) {
            int n = 12;
            while (n > 0 && !x.cut(p, n)) {
                n--;
            }
            text.append("; length ").append(n);
        }
        for (int t = 0; t < 3; t++) {
            for (int f = 0; f < 4; f++) {
                text.append("; rule ").append(x.rule(t, f, 0, 0, 0));
            }
        }
    }
}
