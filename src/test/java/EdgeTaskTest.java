/** What promises 13 to 19 say of their edges and of the calls that they refuse: a method a sentence. */
public final class EdgeTaskTest {
    private static final Due DUE = new Due();
    /** Of Twin.busy(), which has tasks 1 to 3. */
    private static final int[] NO_TASK = {Code.MIN, -1, 0, 4, 6, 7, Code.MAX};

    public static void main(String[] args) {
        spawnBeginsATask();
        spawnIsBadForNoSuchProcedureInThePresentVersion();
        spawnIsFullWhenThereAre6();
        stepDoesUpToNInstructions();
        stepUntilItWaits();
        stepUntilItHasEnded();
        stepUntilAFault();
        stepIsBadForNoSuchTask();
        stepIsBadForNBeside1To200();
        sendTellsHowManyItHas();
        sendIsBadForNoSuchTask();
        sendIsNoWhenItHasEndedOrHadAFault();
        sendIsFullAt8();
        stateIs0ReadyOrNotYetRun();
        stateIs1AsStepSaid();
        stateIs2Or3ForGood();
        stateIsBadForNoSuchTask();
        resultOfATaskThatHasEnded();
        resultIs0Otherwise();
        framesTellsHowMany();
        framesIsBadForNoSuchTask();
        frameOfEachKAndWhat();
        frameIsBadForNoSuchFrame();
        frameIsBadForAnotherWhat();
        DUE.end();
    }

    private static void refuses(String what, int answer, Twin.Call call) {
        Twin.refuses(DUE, what, Twin::busy, answer, call);
    }

    /** Promise 13: "A task begins, with one frame of a procedure at place 0, whose local 0 is that: its number." */
    private static void spawnBeginsATask() {
        int[] arguments = {Code.MIN, -1, 0, 1, 16, Code.MAX};
        SwitchedModules x = new SwitchedModules();
        for (int p = 0; p <= 5; p++) {
            x.word(p, 0, 0, 0, 0, 0);
        }
        Code.switchOver(x);
        for (int p = 0; p <= 5; p++) {
            DUE.is("13: its number", x.spawn(p, arguments[p]), p + 1);
            DUE.is("13: one frame", x.frames(p + 1), 1);
            int[] want = {p, 0, arguments[p], 0, 0};
            for (int what = 0; what < 5; what++) {
                DUE.is("13: what " + what, x.frame(p + 1, 0, what), want[what]);
            }
            DUE.is("13: an empty queue", x.send(p + 1, 0), 1);
        }
    }

    /** "BAD when there is no such procedure in the present version" */
    private static void spawnIsBadForNoSuchProcedureInThePresentVersion() {
        for (int p : new int[] {Code.MIN, -1, 4, 5, 6, Code.MAX}) {
            refuses("13: procedure " + p, Code.BAD, x -> x.spawn(p, 1));
        }
        refuses("13: in the draft alone", Code.BAD, x -> x.spawn(3, 1));
        Twin.refuses(DUE, "13: in the staged draft alone", Twin::busyAndStaged, Code.BAD, x -> x.spawn(3, 1));
        SwitchedModules x = Twin.busy();
        x.cut(1, 0);
        DUE.is("13: gone in the draft alone", x.spawn(1, 1), 4);
        DUE.is("13: procedure 2", x.spawn(2, 1), 5);
    }

    /** "FULL when there are 6." */
    private static void spawnIsFullWhenThereAre6() {
        for (int p = 0; p <= 2; p++) {
            int procedure = p;
            Twin.refuses(DUE, "13: six", Twin::busyAndFull, Code.FULL, x -> x.spawn(procedure, 1));
        }
        Twin.refuses(DUE, "13: six, and no such procedure", Twin::busyAndFull, Code.BAD, x -> x.spawn(4, 1));
        SwitchedModules x = Twin.busy();
        for (int task = 4; task <= 6; task++) {
            DUE.is("13: there are " + (task - 1), x.spawn(1, 0), task);
        }
        for (int task = 1; task <= 6; task++) {
            x.step(task, 200);
        }
        DUE.is("13: six, though they have ended or had a fault", x.spawn(1, 0), Code.FULL);
    }

    /** Promise 14: "A task does up to n instructions .. 0 ready" */
    private static void stepDoesUpToNInstructions() {
        for (int n : new int[] {1, 2, 199, 200}) {
            SwitchedModules x = Code.running(Code.set(1, 1), Code.add(0, 0, 1), Code.jump(2, 1), Code.ret(0));
            x.spawn(0, 0);
            x.spawn(0, 0);
            DUE.is("14: n " + n, x.step(1, n), 0);
            DUE.is("14: place after " + n, x.frame(1, 0, 1), n == 1 ? 1 : 2 - n % 2);
            DUE.is("14: so many were done", x.frame(1, 0, 2), n / 2);
            DUE.is("14: the other task has not run", x.frame(2, 0, 1), 0);
        }
    }

    /** "until it waits .. 1 waiting" */
    private static void stepUntilItWaits() {
        for (int before = 0; before <= 3; before++) {
            SwitchedModules x = Code.running(Code.set(1, 1), Code.set(1, 2), Code.set(1, 3), Code.await(0),
                Code.ret(0));
            x.spawn(0, 0);
            if (before > 0) {
                DUE.is("14: not yet at the WAIT", x.step(1, before), 0);
            }
            DUE.is("14: up to the WAIT and not it", before == 3 ? 0 : x.step(1, 3 - before), 0);
            DUE.is("14: the WAIT", x.step(1, 1), 1);
            DUE.is("14: and again", x.step(1, 200), 1);
            x.send(1, 4);
            DUE.is("14: one has come", x.step(1, 1), 0);
            DUE.is("14: it", x.frame(1, 0, 2), 4);
        }
    }

    /** "has ended .. 2 ended" */
    private static void stepUntilItHasEnded() {
        SwitchedModules x = Code.running(Code.set(1, 1), Code.ret(1));
        x.spawn(0, 0);
        x.spawn(0, 0);
        DUE.is("14: not yet", x.step(1, 1), 0);
        DUE.is("14: ended", x.step(1, 1), 2);
        DUE.is("14: ended before n", x.step(2, 200), 2);
        String before = View.of(x);
        DUE.is("14: ended for good", x.step(1, 1), 2);
        DUE.is("14: ended for good", x.step(1, 200), 2);
        DUE.same("14: nothing is done any more", View.of(x), before);
    }

    /** "or a fault .. 3 fault (it has no frames then)." */
    private static void stepUntilAFault() {
        SwitchedModules x = Code.runningAll(new int[][] {Code.keep(0, 0), Code.call(1, 1, 0), Code.ret(0)},
            new int[][] {Code.keep(0, 1), Code.get(1, 1, 0), Code.keep(0, 2), Code.ret(0)});
        x.spawn(0, 6);
        DUE.is("14: not yet", x.step(1, 3), 0);
        DUE.is("14: two frames", x.frames(1), 2);
        DUE.is("14: fault", x.step(1, 200), 3);
        DUE.is("14: it has no frames then", x.frames(1), 0);
        DUE.is("14: nor the lowest one", x.frame(1, 0, 0), Code.BAD);
        DUE.is("14: what was done before it stays", x.global(1), 6);
        DUE.is("14: what comes after it is not done", x.global(2), 0);
        String before = View.of(x);
        DUE.is("14: fault for good", x.step(1, 1), 3);
        DUE.is("14: fault for good", x.step(1, 200), 3);
        DUE.same("14: nothing is done any more", View.of(x), before);
    }

    /** "BAD when there is no such task" */
    private static void stepIsBadForNoSuchTask() {
        for (int task : NO_TASK) {
            refuses("14: task " + task, Code.BAD, x -> x.step(task, 1));
        }
        DUE.is("14: task 6 of six", Twin.busyAndFull().step(6, 1), 2);
        DUE.is("14: task 7 of six", Twin.busyAndFull().step(7, 1), Code.BAD);
        DUE.is("14: task 0 of six", Twin.busyAndFull().step(0, 1), Code.BAD);
    }

    /** "or n is not 1 .. 200." */
    private static void stepIsBadForNBeside1To200() {
        for (int n : new int[] {Code.MIN, -1, 0, 201, Code.MAX}) {
            for (int t = 1; t <= 3; t++) {
                int task = t;
                refuses("14: task " + t + ", n " + n, Code.BAD, x -> x.step(task, n));
            }
        }
        DUE.is("14: n 1", Twin.busy().step(1, 1), 0);
        DUE.is("14: n 200", Twin.busy().step(1, 200), 2);
    }

    /** Promise 15: "An int comes to a task's queue: how many it has." */
    private static void sendTellsHowManyItHas() {
        SwitchedModules x = Code.running(Code.await(0), Code.keep(0, 0), Code.jump(2, 0), Code.ret(0));
        x.spawn(0, 0);
        for (int round = 0; round < 3; round++) {
            for (int n = 1; n <= 8; n++) {
                DUE.is("15: how many", x.send(1, 100 * round + n), n);
            }
            for (int n = 1; n <= 8; n++) {
                x.step(1, 2);
                DUE.is("15: the oldest comes first", x.global(0), 100 * round + n);
                x.step(1, 1);
            }
        }
        DUE.is("15: none is left", x.step(1, 1), 1);
    }

    /** "BAD" */
    private static void sendIsBadForNoSuchTask() {
        for (int task : NO_TASK) {
            refuses("15: task " + task, Code.BAD, x -> x.send(task, 1));
        }
        DUE.is("15: task 6 of six", Twin.busyAndFull().send(6, 1), 1);
        DUE.is("15: task 7 of six", Twin.busyAndFull().send(7, 1), Code.BAD);
    }

    /** "NO when it has ended or had a fault" */
    private static void sendIsNoWhenItHasEndedOrHadAFault() {
        refuses("15: ended", Code.NO, x -> x.send(2, 1));
        refuses("15: fault", Code.NO, x -> x.send(3, 1));
        SwitchedModules x = Code.running(Code.get(0, 0, 0), Code.ret(0));
        SwitchedModules y = Code.running(Code.ret(0));
        x.spawn(0, 0);
        y.spawn(0, 0);
        for (int i = 0; i < 8; i++) {
            x.send(1, i);
            y.send(1, i);
        }
        DUE.is("15: full, not yet run", x.send(1, 8), Code.FULL);
        x.step(1, 1);
        y.step(1, 1);
        DUE.is("15: full, but it has had a fault", x.send(1, 8), Code.NO);
        DUE.is("15: full, but it has ended", y.send(1, 8), Code.NO);
    }

    /** "FULL." */
    private static void sendIsFullAt8() {
        Twin.refuses(DUE, "15: full", Twin::busyAndFull, Code.FULL, x -> x.send(4, 99));
        SwitchedModules x = Twin.busyAndFull();
        DUE.is("15: full", x.send(4, 99), Code.FULL);
        DUE.is("15: another one's is not", x.send(5, 99), 1);
        x.step(4, 1);
        DUE.is("15: one has left it", x.send(4, 99), 8);
        DUE.is("15: full again", x.send(4, 99), Code.FULL);
    }

    /** Promise 16: "0 ready (or not yet run)" */
    private static void stateIs0ReadyOrNotYetRun() {
        SwitchedModules x = Code.running(Code.await(0), Code.set(1, 1), Code.ret(0));
        x.spawn(0, 0);
        DUE.is("16: not yet run, though it will wait", x.state(1), 0);
        x.send(1, 1);
        DUE.is("16: not yet run", x.state(1), 0);
        x.step(1, 1);
        DUE.is("16: ready", x.state(1), 0);
    }

    /** "1 waiting (as step() said)" */
    private static void stateIs1AsStepSaid() {
        SwitchedModules x = Code.running(Code.await(0), Code.await(1), Code.ret(0));
        x.spawn(0, 0);
        x.step(1, 1);
        DUE.is("16: waiting", x.state(1), 1);
        x.step(1, 201);
        DUE.is("16: after a step that was refused", x.state(1), 1);
        x.send(1, 1);
        DUE.is("16: after a send, as step() said", x.state(1), 1);
        x.step(1, 1);
        DUE.is("16: ready", x.state(1), 0);
        x.step(1, 1);
        DUE.is("16: waiting again", x.state(1), 1);
        x.stage();
        x.attempt(0);
        DUE.is("16: after a switch", x.state(1), 1);
    }

    /** "2 ended, 3 fault." */
    private static void stateIs2Or3ForGood() {
        SwitchedModules x = Twin.busy();
        for (int n : new int[] {1, 200}) {
            DUE.is("16: ended", x.state(2), 2);
            DUE.is("16: fault", x.state(3), 3);
            x.step(2, n);
            x.step(3, n);
            x.send(2, 1);
            x.send(3, 1);
        }
        Code.switchOver(x);
        DUE.is("16: ended, after a switch", x.state(2), 2);
        DUE.is("16: fault, after a switch", x.state(3), 3);
    }

    /** "BAD." */
    private static void stateIsBadForNoSuchTask() {
        SwitchedModules x = Twin.busy();
        for (int task : NO_TASK) {
            DUE.is("16: task " + task, x.state(task), Code.BAD);
        }
        DUE.is("16: task 6 of six", Twin.busyAndFull().state(6), 0);
        DUE.is("16: task 7 of six", Twin.busyAndFull().state(7), Code.BAD);
    }

    /** Promise 17: "The result of a task that has ended" */
    private static void resultOfATaskThatHasEnded() {
        int[] values = {Code.MIN, -1, 0, 1, 7, Code.MAX};
        SwitchedModules x = Code.running(Code.ret(0));
        for (int task = 1; task <= 6; task++) {
            x.spawn(0, values[task - 1]);
        }
        for (int task = 6; task >= 1; task--) {
            DUE.is("17: not yet", x.result(task), 0);
            x.step(task, 1);
            DUE.is("17: ended", x.result(task), values[task - 1]);
        }
        x.cut(0, 0);
        Code.switchOver(x);
        DUE.is("17: its procedure is gone", x.result(6), Code.MAX);
    }

    /** "0 otherwise." */
    private static void resultIs0Otherwise() {
        SwitchedModules x = Twin.busyAndFull();
        DUE.is("17: at a point", x.result(1), 0);
        DUE.is("17: fault", x.result(3), 0);
        DUE.is("17: waiting", x.result(4), 0);
        DUE.is("17: not yet run", x.result(5), 0);
        for (int task : new int[] {Code.MIN, -1, 0, 7, Code.MAX}) {
            DUE.is("17: task " + task, x.result(task), 0);
        }
        SwitchedModules y = Code.runningAll(new int[][] {Code.call(1, 1, 0), Code.get(0, 0, 0), Code.ret(0)},
            new int[][] {Code.ret(0)});
        y.spawn(0, 5);
        y.step(1, 2);
        DUE.is("17: a frame has answered, the task has not ended", y.result(1), 0);
        y.step(1, 1);
        DUE.is("17: fault after that", y.result(1), 0);
    }

    /** Promise 18: "How many frames a task has" */
    private static void framesTellsHowMany() {
        SwitchedModules x = Code.running(Code.jump(0, 4), Code.set(1, 1), Code.sub(0, 0, 1), Code.call(0, 0, 0),
            Code.ret(0));
        x.spawn(0, 5);
        for (int frames = 1; frames <= 6; frames++) {
            DUE.is("18: down", x.frames(1), frames);
            x.step(1, frames == 6 ? 1 : 4);
        }
        for (int frames = 6; frames >= 1; frames--) {
            DUE.is("18: up", x.frames(1), frames);
            x.step(1, 1);
        }
        DUE.is("18: ended", x.frames(1), 0);
        DUE.is("18: fault", Twin.busy().frames(3), 0);
    }

    /** "BAD." */
    private static void framesIsBadForNoSuchTask() {
        SwitchedModules x = Twin.busy();
        for (int task : NO_TASK) {
            DUE.is("18: task " + task, x.frames(task), Code.BAD);
        }
        DUE.is("18: task 6 of six", Twin.busyAndFull().frames(6), 1);
        DUE.is("18: task 7 of six", Twin.busyAndFull().frames(7), Code.BAD);
    }

    /** Six frames, the lowest one of procedure 0, with locals of their own. */
    private static SwitchedModules sixFrames() {
        SwitchedModules x = new SwitchedModules();
        for (int p = 0; p <= 5; p++) {
            int next = Math.min(p + 1, 5);
            Code.write(x, p, Code.set(1, 10 + p), Code.set(2, 20 + p), Code.call(0, next, 2), Code.ret(0));
        }
        Code.switchOver(x);
        x.spawn(0, 19);
        x.step(1, 17);
        return x;
    }

    /** Promise 19: "Of frame k of a task (0 is the lowest one): its procedure (what = 0), its place (1), locals .." */
    private static void frameOfEachKAndWhat() {
        SwitchedModules x = sixFrames();
        for (int k = 0; k <= 5; k++) {
            int[] want = {k, k == 5 ? 2 : 3, 19 + k, 10 + k, 20 + k};
            for (int what = 0; what <= 4; what++) {
                DUE.is("19: frame " + k + ", what " + what, x.frame(1, k, what), want[what]);
            }
        }
    }

    /** "BAD when there is none such" */
    private static void frameIsBadForNoSuchFrame() {
        SwitchedModules x = sixFrames();
        for (int k : new int[] {Code.MIN, -1, 6, 7, Code.MAX}) {
            for (int what = 0; what <= 4; what++) {
                DUE.is("19: frame " + k + ", what " + what, x.frame(1, k, what), Code.BAD);
            }
        }
        for (int task : new int[] {Code.MIN, -1, 0, 2, 6, 7, Code.MAX}) {
            DUE.is("19: task " + task, x.frame(task, 0, 0), Code.BAD);
        }
        SwitchedModules y = Twin.busy();
        DUE.is("19: its only frame", y.frame(1, 0, 0), 0);
        DUE.is("19: one more than it has", y.frame(1, 1, 0), Code.BAD);
        DUE.is("19: ended", y.frame(2, 0, 0), Code.BAD);
        DUE.is("19: fault", y.frame(3, 0, 0), Code.BAD);
    }

    /** "or for another what." */
    private static void frameIsBadForAnotherWhat() {
        SwitchedModules x = sixFrames();
        for (int what : new int[] {Code.MIN, -3, -1, 5, 6, Code.MAX}) {
            for (int k = 0; k <= 5; k++) {
                DUE.is("19: frame " + k + ", what " + what, x.frame(1, k, what), Code.BAD);
            }
        }
    }
}
