/** Promises 13 to 19: tasks, their frames and what the instructions do to them. */
public final class TaskTest {
    private static final Due DUE = new Due();

    public static void main(String[] args) {
        spawn();
        stepBounds();
        arithmetic();
        jump();
        call();
        callAgain();
        callTooDeep();
        deepestCall();
        waiting();
        send();
        stateStaysAsStepSaid();
        result();
        frames();
        frame();
        point();
        DUE.end();
    }

    private static void spawn() {
        SwitchedModules x = Code.running(Code.ret(0));
        for (int p : new int[] {-1, 1, 5, 6, Code.MIN, Code.MAX}) {
            DUE.is("13: procedure " + p, x.spawn(p, 0), Code.BAD);
        }
        x.word(1, 0, 0, 0, 0, 0);
        DUE.is("13: in the draft alone", x.spawn(1, 0), Code.BAD);
        x.cut(0, 0);
        for (int task = 1; task <= 6; task++) {
            DUE.is("13: number", x.spawn(0, task * 10), task);
            DUE.is("13: frames", x.frames(task), 1);
            DUE.is("13: place", x.frame(task, 0, 1), 0);
            DUE.is("13: local 0", x.frame(task, 0, 2), task * 10);
            DUE.is("13: local 1", x.frame(task, 0, 3), 0);
            DUE.is("13: local 2", x.frame(task, 0, 4), 0);
        }
        DUE.is("13: there are 6", x.spawn(0, 0), Code.FULL);
        DUE.is("13: BAD comes first", x.spawn(1, 0), Code.BAD);
        x.step(1, 1);
        DUE.is("13: an ended task counts", x.spawn(0, 0), Code.FULL);
    }

    private static void stepBounds() {
        SwitchedModules x = Code.running(Code.set(1, 1), Code.set(1, 2), Code.jump(2, 0), Code.ret(0));
        x.spawn(0, 0);
        for (int n : new int[] {Code.MIN, -1, 0, 201, Code.MAX}) {
            DUE.is("14: n " + n, x.step(1, n), Code.BAD);
        }
        for (int task : new int[] {Code.MIN, -1, 0, 2, 6, 7, Code.MAX}) {
            DUE.is("14: task " + task, x.step(task, 1), Code.BAD);
        }
        DUE.is("14: nothing done", x.frame(1, 0, 1), 0);
        DUE.is("14: one", x.step(1, 1), 0);
        DUE.is("14: one done", x.frame(1, 0, 1), 1);
        DUE.is("14: 200", x.step(1, 200), 0);
        DUE.is("14: 201 done", x.frame(1, 0, 1), 201 % 3);
        SwitchedModules y = Code.running(Code.ret(0));
        y.spawn(0, 0);
        DUE.is("14: ended", y.step(1, 200), 2);
        DUE.is("14: ended stays", y.step(1, 1), 2);
        DUE.is("14: ended, n 0", y.step(1, 0), Code.BAD);
        DUE.is("14: ended, n 201", y.step(1, 201), Code.BAD);
    }

    private static void ends(String what, int want, int argument, int[]... words) {
        SwitchedModules x = Code.running(words);
        x.spawn(0, argument);
        DUE.is(what + ": ends", x.step(1, 200), 2);
        DUE.is(what, x.result(1), want);
    }

    private static void arithmetic() {
        ends("RETURN 0", 5, 5, Code.ret(0));
        ends("RETURN 2", 0, 5, Code.ret(2));
        ends("SET", Code.MIN, 5, Code.set(2, Code.MIN), Code.ret(2));
        ends("ADD", 12, 5, Code.set(1, 7), Code.add(2, 0, 1), Code.ret(2));
        ends("ADD wraps", Code.MIN, Code.MAX, Code.set(1, 1), Code.add(0, 0, 1), Code.ret(0));
        ends("SUB", -2, 5, Code.set(1, 7), Code.sub(2, 0, 1), Code.ret(2));
        ends("SUB wraps", Code.MAX, Code.MIN, Code.set(1, 1), Code.sub(0, 0, 1), Code.ret(0));
        ends("LOAD and KEEP", 6, 6, Code.keep(0, 3), Code.load(2, 3), Code.ret(2));
        ends("LOAD of another", 0, 6, Code.keep(0, 3), Code.load(2, 2), Code.ret(2));
    }

    private static void jump() {
        ends("JUMP taken", 1, 0, Code.set(1, 1), Code.jump(0, 3), Code.set(1, 2), Code.ret(1));
        ends("JUMP not taken", 2, -1, Code.set(1, 1), Code.jump(0, 3), Code.set(1, 2), Code.ret(1));
        ends("JUMP back", 12, 4, Code.set(1, 3), Code.jump(0, 7), Code.add(2, 2, 1), Code.set(1, 1),
            Code.sub(0, 0, 1), Code.set(1, 0), Code.jump(1, 0), Code.ret(2));
        SwitchedModules x = Code.running(Code.jump(1, 0), Code.ret(0));
        x.spawn(0, 0);
        DUE.is("JUMP to itself", x.step(1, 200), 0);
        DUE.is("JUMP to itself, place", x.frame(1, 0, 1), 0);
    }

    private static void call() {
        int[][] none = {};
        SwitchedModules x = Code.runningAll(
            new int[][] {Code.set(2, 20), Code.call(1, 4, 2), Code.ret(1)}, none, none, none,
            new int[][] {Code.set(1, 3), Code.set(2, 4), Code.add(0, 0, 1), Code.ret(0)});
        x.spawn(0, 9);
        x.step(1, 2);
        DUE.is("CALL: frames", x.frames(1), 2);
        DUE.is("CALL: the place below has gone on", x.frame(1, 0, 1), 2);
        DUE.is("CALL: procedure", x.frame(1, 1, 0), 4);
        DUE.is("CALL: place", x.frame(1, 1, 1), 0);
        DUE.is("CALL: local 0", x.frame(1, 1, 2), 20);
        DUE.is("CALL: local 1", x.frame(1, 1, 3), 0);
        DUE.is("CALL: local 2", x.frame(1, 1, 4), 0);
        x.step(1, 2);
        DUE.is("CALL: locals below stay", x.frame(1, 0, 4), 20);
        x.step(1, 2);
        DUE.is("RETURN: frames", x.frames(1), 1);
        DUE.is("RETURN: into local 1", x.frame(1, 0, 3), 23);
        DUE.is("RETURN: local 0 stays", x.frame(1, 0, 2), 9);
        DUE.is("RETURN: local 2 stays", x.frame(1, 0, 4), 20);
        DUE.is("RETURN: place", x.frame(1, 0, 1), 2);
        DUE.is("RETURN: ends", x.step(1, 1), 2);
        DUE.is("RETURN: result", x.result(1), 23);
    }

    /** A second call at the same depth finds nothing of the first one. */
    private static void callAgain() {
        SwitchedModules x = Code.runningAll(
            new int[][] {Code.call(1, 1, 0), Code.call(2, 2, 0), Code.ret(2)},
            new int[][] {Code.set(1, 5), Code.set(2, 6), Code.ret(1)},
            new int[][] {Code.point(0), Code.ret(0)});
        x.spawn(0, 9);
        x.step(1, 5);
        int[] want = {2, 0, 9, 0, 0};
        for (int what = 0; what < 5; what++) {
            DUE.is("CALL again: what " + what, x.frame(1, 1, what), want[what]);
        }
        DUE.is("CALL again: ends", x.step(1, 9), 2);
        DUE.is("CALL again: into another local", x.result(1), 9);
    }

    private static void callTooDeep() {
        SwitchedModules x = Code.running(Code.call(0, 0, 0), Code.ret(0));
        x.spawn(0, 7);
        x.spawn(0, 7);
        for (int depth = 2; depth <= 6; depth++) {
            DUE.is("CALL: ready", x.step(1, 1), 0);
            DUE.is("CALL: frames", x.frames(1), depth);
        }
        DUE.is("CALL: a seventh frame", x.step(1, 1), 3);
        DUE.is("14: no frames then", x.frames(1), 0);
        DUE.is("16: fault", x.state(1), 3);
        DUE.is("17: fault", x.result(1), 0);
        DUE.is("14: fault stays", x.step(1, 200), 3);
        DUE.is("15: fault", x.send(1, 1), Code.NO);
        DUE.is("the other task", x.frames(2), 1);
        DUE.is("the other task", x.state(2), 0);
    }

    /** Goes down as many frames as its argument tells, each adding one to what the one above answers. */
    private static void deepestCall() {
        int[][] words = {Code.jump(0, 5), Code.set(1, 1), Code.sub(0, 0, 1), Code.call(0, 0, 0),
            Code.add(0, 0, 1), Code.ret(0)};
        ends("six frames", 5, 5, words);
        SwitchedModules x = Code.running(words);
        x.spawn(0, 6);
        DUE.is("seven frames", x.step(1, 200), 3);
    }

    private static void waiting() {
        SwitchedModules x = Code.running(Code.set(1, 5), Code.await(1), Code.await(2), Code.sub(0, 1, 2), Code.ret(0));
        x.spawn(0, 0);
        DUE.is("WAIT: not reached yet", x.step(1, 1), 0);
        DUE.is("WAIT: none", x.step(1, 1), 1);
        DUE.is("WAIT: nothing is done, place", x.frame(1, 0, 1), 1);
        DUE.is("WAIT: nothing is done, local", x.frame(1, 0, 3), 5);
        DUE.is("WAIT: none again", x.step(1, 200), 1);
        x.send(1, 30);
        DUE.is("WAIT: one", x.step(1, 200), 1);
        DUE.is("WAIT: it came", x.frame(1, 0, 3), 30);
        DUE.is("WAIT: the second", x.frame(1, 0, 1), 2);
        x.send(1, 12);
        x.send(1, 13);
        DUE.is("WAIT: ended", x.step(1, 3), 2);
        DUE.is("WAIT: the oldest", x.result(1), 18);
    }

    private static void send() {
        SwitchedModules x = Code.running(Code.await(0), Code.await(1), Code.sub(0, 0, 1), Code.await(1), Code.ret(1));
        x.spawn(0, 0);
        x.spawn(0, 0);
        for (int task : new int[] {Code.MIN, -1, 0, 3, 7, Code.MAX}) {
            DUE.is("15: task " + task, x.send(task, 1), Code.BAD);
        }
        for (int n = 1; n <= 8; n++) {
            DUE.is("15: how many", x.send(1, n * n), n);
        }
        DUE.is("15: full", x.send(1, 0), Code.FULL);
        DUE.is("15: the other task's queue", x.send(2, 0), 1);
        x.step(1, 3);
        DUE.is("15: oldest first", x.frame(1, 0, 2), -3);
        DUE.is("15: room again", x.send(1, 81), 7);
        DUE.is("15: room again", x.send(1, 100), 8);
        DUE.is("15: full again", x.send(1, 0), Code.FULL);
        x.step(1, 9);
        DUE.is("15: the third", x.result(1), 9);
        DUE.is("15: ended, though full once", x.send(1, 0), Code.NO);
    }

    private static void stateStaysAsStepSaid() {
        SwitchedModules x = Code.running(Code.await(0), Code.set(1, 1), Code.ret(0));
        for (int task : new int[] {Code.MIN, -1, 0, 1, 7, Code.MAX}) {
            DUE.is("16: task " + task, x.state(task), Code.BAD);
        }
        x.spawn(0, 0);
        DUE.is("16: not yet run", x.state(1), 0);
        x.step(1, 1);
        DUE.is("16: waiting", x.state(1), 1);
        x.send(1, 4);
        DUE.is("16: as step() said", x.state(1), 1);
        x.step(1, 0);
        DUE.is("16: a step refused", x.state(1), 1);
        x.step(1, 1);
        DUE.is("16: ready", x.state(1), 0);
        x.step(1, 9);
        DUE.is("16: ended", x.state(1), 2);
    }

    private static void result() {
        SwitchedModules x = Code.running(Code.set(1, -8), Code.ret(1));
        x.spawn(0, 3);
        for (int task : new int[] {Code.MIN, -1, 0, 2, 7, Code.MAX}) {
            DUE.is("17: task " + task, x.result(task), 0);
        }
        DUE.is("17: not ended", x.result(1), 0);
        x.step(1, 1);
        DUE.is("17: not ended", x.result(1), 0);
        x.step(1, 1);
        DUE.is("17: ended", x.result(1), -8);
    }

    private static void frames() {
        SwitchedModules x = Code.running(Code.call(0, 0, 0), Code.ret(0));
        x.spawn(0, 0);
        for (int task : new int[] {Code.MIN, -1, 0, 2, 7, Code.MAX}) {
            DUE.is("18: task " + task, x.frames(task), Code.BAD);
        }
        x.step(1, 3);
        DUE.is("18: frames", x.frames(1), 4);
        x.step(1, 9);
        DUE.is("18: none after a fault", x.frames(1), 0);
    }

    private static void frame() {
        int[][] none = {};
        SwitchedModules x = Code.runningAll(
            new int[][] {Code.set(1, 11), Code.set(2, 12), Code.call(0, 3, 1), Code.ret(0)}, none, none,
            new int[][] {Code.set(2, 22), Code.ret(0)});
        x.spawn(0, 10);
        x.step(1, 4);
        int[][] want = {{0, 3, 10, 11, 12}, {3, 1, 11, 0, 22}};
        for (int k = 0; k < 2; k++) {
            for (int what = 0; what < 5; what++) {
                DUE.is("19: frame " + k + ", what " + what, x.frame(1, k, what), want[k][what]);
            }
            for (int what : new int[] {Code.MIN, -1, 5, Code.MAX}) {
                DUE.is("19: frame " + k + ", what " + what, x.frame(1, k, what), Code.BAD);
            }
        }
        for (int k : new int[] {Code.MIN, -1, 2, 6, Code.MAX}) {
            DUE.is("19: frame " + k, x.frame(1, k, 0), Code.BAD);
        }
        for (int task : new int[] {Code.MIN, -1, 0, 2, 7, Code.MAX}) {
            DUE.is("19: task " + task, x.frame(task, 0, 0), Code.BAD);
        }
        x.step(1, 9);
        DUE.is("19: ended", x.frame(1, 0, 0), Code.BAD);
    }

    private static void point() {
        SwitchedModules x = Code.running(Code.point(3), Code.ret(0));
        x.spawn(0, 4);
        DUE.is("POINT: ready", x.step(1, 1), 0);
        DUE.is("POINT: goes on", x.frame(1, 0, 1), 1);
        DUE.is("POINT: local 0", x.frame(1, 0, 2), 4);
        DUE.is("POINT: local 1", x.frame(1, 0, 3), 0);
    }
}
