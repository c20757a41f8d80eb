/** What promises 9 to 12 say of their edges and of the calls that they refuse: a method a sentence. */
public final class EdgeSwitchTest {
    private static final Due DUE = new Due();

    public static void main(String[] args) {
        changedIsFalseWhenNoneIsStaged();
        changedIsFalseForNoSuchProcedure();
        blockerIsTheLeastTaskFromANumberOn();
        blockerIs0WhenThereIsNone();
        blockerIs0WhenNothingIsStaged();
        attemptIsBadWhenFuelIsLessThan0();
        attemptIs3WhenNothingIsStaged();
        attemptIs0WhenAFrameStandsInTheWay();
        attemptIs1WhenItTakesThePlace();
        attemptIs2WhenObjectsCannotBeMadeOver();
        attemptAnswersInThisOrder();
        versionIsThePresentOnesNumber();
        DUE.end();
    }

    /** Promise 9: "false when none is staged" */
    private static void changedIsFalseWhenNoneIsStaged() {
        SwitchedModules x = Twin.busy();
        for (int p = 0; p <= 5; p++) {
            DUE.is("9: not staged, " + p, x.changed(p), false);
        }
        boolean[] want = {true, false, false, true, false, false};
        x.stage();
        for (int p = 0; p <= 5; p++) {
            DUE.is("9: staged, " + p, x.changed(p), want[p]);
        }
        x.withdraw();
        for (int p = 0; p <= 5; p++) {
            DUE.is("9: withdrawn, " + p, x.changed(p), false);
        }
        x.stage();
        x.attempt(7);
        for (int p = 0; p <= 5; p++) {
            DUE.is("9: it has taken the place, " + p, x.changed(p), false);
        }
    }

    /** "or there is no such procedure." */
    private static void changedIsFalseForNoSuchProcedure() {
        SwitchedModules x = new SwitchedModules();
        for (int p = 0; p <= 5; p++) {
            x.word(p, 0, 0, 0, 0, 0);
        }
        x.stage();
        for (int p : new int[] {Code.MIN, -1, 6, Code.MAX}) {
            DUE.is("9: procedure " + p, x.changed(p), false);
        }
        DUE.is("9: procedure 0", x.changed(0), true);
        DUE.is("9: procedure 5", x.changed(5), true);
    }

    /** Six tasks, of which those named here are of a procedure that the staged draft changes. */
    private static SwitchedModules inTheWay(int... tasks) {
        SwitchedModules x = Code.runningAll(new int[][] {Code.set(1, 1), Code.ret(0)},
            new int[][] {Code.set(1, 1), Code.ret(0)});
        for (int task = 1; task <= 6; task++) {
            int p = 1;
            for (int named : tasks) {
                p = named == task ? 0 : p;
            }
            x.spawn(p, 0);
        }
        x.word(0, 0, 1, 1, 2, 0);
        x.stage();
        return x;
    }

    /** Promise 10: "The least task, from a number on, with a frame that stands in the way" */
    private static void blockerIsTheLeastTaskFromANumberOn() {
        SwitchedModules x = inTheWay(1, 3, 6);
        int[] want = {1, 1, 3, 3, 6, 6, 6, 0};
        for (int from = 0; from <= 7; from++) {
            DUE.is("10: from " + from, x.blocker(from), want[from]);
        }
        DUE.is("10: from -1", x.blocker(-1), 1);
        DUE.is("10: from MIN", x.blocker(Code.MIN), 1);
        DUE.is("10: from MAX", x.blocker(Code.MAX), 0);
        for (int task = 1; task <= 6; task++) {
            SwitchedModules y = inTheWay(task);
            DUE.is("10: from " + task, y.blocker(task), task);
            DUE.is("10: from one less", y.blocker(task - 1), task);
            DUE.is("10: from one more", y.blocker(task + 1), 0);
        }
    }

    /** "0 when there is none" */
    private static void blockerIs0WhenThereIsNone() {
        SwitchedModules x = inTheWay();
        for (int from : new int[] {Code.MIN, 0, 1, 6, 7, Code.MAX}) {
            DUE.is("10: none, from " + from, x.blocker(from), 0);
        }
        SwitchedModules y = inTheWay(2);
        y.step(2, 2);
        DUE.is("10: it has ended", y.blocker(1), 0);
        SwitchedModules z = new SwitchedModules();
        z.word(0, 0, 0, 0, 0, 0);
        z.stage();
        DUE.is("10: no task at all", z.blocker(0), 0);
    }

    /** "(or nothing staged)." */
    private static void blockerIs0WhenNothingIsStaged() {
        SwitchedModules x = inTheWay(1, 3, 6);
        x.withdraw();
        for (int from = 0; from <= 7; from++) {
            DUE.is("10: withdrawn, from " + from, x.blocker(from), 0);
        }
    }

    /** Promise 11: "BAD when fuel is less than 0 .. (nothing is done in these cases)" */
    private static void attemptIsBadWhenFuelIsLessThan0() {
        for (int fuel : new int[] {-1, -7, Code.MIN}) {
            Twin.refuses(DUE, "11: fuel " + fuel, Twin::busyAndStaged, Code.BAD, x -> x.attempt(fuel));
            Twin.refuses(DUE, "11: not staged, fuel " + fuel, Twin::busy, Code.BAD, x -> x.attempt(fuel));
            Twin.refuses(DUE, "11: garbage, fuel " + fuel, () -> garbage(true), Code.BAD, x -> x.attempt(fuel));
        }
        SwitchedModules x = new SwitchedModules();
        x.stage();
        DUE.is("11: fuel 0", x.attempt(0), 1);
    }

    /** An object that is not reachable, and a draft that changes what the task runs. */
    private static SwitchedModules garbage(boolean staged) {
        SwitchedModules x = Code.running(Code.make(1, 2), Code.set(1, 0), Code.set(2, 0), Code.ret(0));
        x.spawn(0, 0);
        x.step(1, 2);
        x.word(0, 2, 1, 2, 5, 0);
        if (staged) {
            x.stage();
        }
        return x;
    }

    /** "3 when nothing is staged" */
    private static void attemptIs3WhenNothingIsStaged() {
        Twin.refuses(DUE, "11: nothing staged", Twin::busy, 3, x -> x.attempt(100));
        Twin.refuses(DUE, "11: nothing staged, garbage", () -> garbage(false), 3, x -> x.attempt(100));
        SwitchedModules x = garbage(false);
        DUE.is("11: nothing staged", x.attempt(0), 3);
        DUE.is("11: what is not reachable stays", x.heap(), 1);
        SwitchedModules y = new SwitchedModules();
        y.stage();
        y.withdraw();
        DUE.is("11: withdrawn", y.attempt(0), 3);
        y.stage();
        y.attempt(0);
        DUE.is("11: it has taken the place", y.attempt(0), 3);
    }

    /** "0 when a frame stands in the way" */
    private static void attemptIs0WhenAFrameStandsInTheWay() {
        Twin.refuses(DUE, "11: in the way", () -> garbage(true), 0, x -> x.attempt(100));
        SwitchedModules x = garbage(true);
        DUE.is("11: in the way", x.attempt(0), 0);
        DUE.is("11: what is not reachable stays", x.heap(), 1);
        DUE.is("11: the version is as it was", x.version(), 1);
        DUE.is("11: it stays staged", x.stage(), Code.NO);
        for (int task = 1; task <= 6; task++) {
            SwitchedModules y = inTheWay(task);
            DUE.is("11: task " + task + " is in the way", y.attempt(0), 0);
            y.step(task, 2);
            DUE.is("11: task " + task + " has ended", y.attempt(0), 1);
        }
    }

    /** "Else the staged draft takes the place: 1" */
    private static void attemptIs1WhenItTakesThePlace() {
        SwitchedModules x = Twin.busyAndStaged();
        DUE.is("11: it takes the place", x.attempt(7), 1);
        DUE.is("11: the version", x.version(), 2);
        DUE.is("11: a procedure that is new", x.spawn(3, 0), 4);
        DUE.is("11: objects are made over", x.field(1, 0), 22);
        DUE.is("11: objects are made over", x.field(1, 1), 0);
        DUE.is("11: objects are made over", x.field(1, 2), 4);
        DUE.is("11: objects are made over", x.field(2, 3), 26);
        DUE.is("11: the task goes on", x.step(1, 200), 2);
        DUE.is("11: with its queue", x.result(1), 25);
    }

    /** "2 when objects cannot be made over (it stays staged then)." */
    private static void attemptIs2WhenObjectsCannotBeMadeOver() {
        for (int fuel = 0; fuel <= 6; fuel++) {
            SwitchedModules x = Twin.busyAndStaged();
            String before = View.of(x);
            DUE.is("11: fuel " + fuel + " of 7", x.attempt(fuel), 2);
            DUE.same("11: all is as it was", View.of(x), before);
            DUE.is("11: it stays staged", x.stage(), Code.NO);
            DUE.is("11: and can take the place", x.attempt(7), 1);
        }
        SwitchedModules y = Twin.busy();
        y.rule(0, 0, 2, 1, 5);
        y.stage();
        String before = View.of(y);
        DUE.is("11: a fault", y.attempt(100), 2);
        DUE.same("11: all is as it was", View.of(y), before);
        DUE.is("11: it stays staged", y.withdraw(), true);
    }

    /** The answers in the document's order, where more than one could be given. */
    private static void attemptAnswersInThisOrder() {
        SwitchedModules x = inTheWay(1);
        DUE.is("11: BAD before 0", x.attempt(-1), Code.BAD);
        x.withdraw();
        DUE.is("11: BAD before 3", x.attempt(-1), Code.BAD);
        DUE.is("11: 3 where a frame would stand in the way", x.attempt(0), 3);
        SwitchedModules y = Code.running(Code.make(1, 0), Code.keep(1, 0), Code.ret(0));
        y.spawn(0, 0);
        y.step(1, 2);
        y.rule(0, 0, 2, 0, 1);
        y.stage();
        DUE.is("11: 0 where objects cannot be made over, either", y.attempt(0), 0);
        y.step(1, 1);
        DUE.is("11: then 2", y.attempt(0), 2);
    }

    /** Promise 12: "The present version's number." */
    private static void versionIsThePresentOnesNumber() {
        SwitchedModules x = new SwitchedModules();
        DUE.is("12: at first", x.version(), 0);
        x.word(0, 0, 0, 0, 0, 0);
        x.stage();
        DUE.is("12: staged", x.version(), 0);
        x.attempt(-1);
        DUE.is("12: BAD", x.version(), 0);
        x.withdraw();
        x.attempt(0);
        DUE.is("12: nothing staged", x.version(), 0);
        x.stage();
        x.attempt(0);
        DUE.is("12: taken", x.version(), 1);
        SwitchedModules y = garbage(true);
        y.attempt(0);
        DUE.is("12: in the way", y.version(), 1);
        SwitchedModules z = Twin.busyAndStaged();
        z.attempt(6);
        DUE.is("12: not made over", z.version(), 1);
        z.attempt(7);
        DUE.is("12: made over", z.version(), 2);
        z.reset();
        DUE.is("12: reset", z.version(), 2);
    }
}
