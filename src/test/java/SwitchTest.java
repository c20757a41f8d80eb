/** Promises 9 to 12: what a staged draft changes, what stands in its way, and how it takes the place. */
public final class SwitchTest {
    private static final Due DUE = new Due();

    public static void main(String[] args) {
        changedWords();
        cutWordsDoNotCount();
        changedTypes();
        sameSaidAgainChangesTypes();
        refusedCallsChangeNoType();
        refusedWhileStagedChangesNoType();
        blocker();
        pointsOnTopAlone();
        attemptWithoutDoing();
        framesGoToPoints();
        madeOver();
        faultsLeaveAllAsItWas();
        lastObjectIsMadeOver();
        fuel();
        droppedBeforeMadeOver();
        typeGoes();
        rulesGoWithTheSwitch();
        version();
        DUE.end();
    }

    private static void changedWords() {
        SwitchedModules x = Code.running(Code.set(0, 1), Code.ret(0));
        Code.write(x, 1, Code.ret(1));
        Code.switchOver(x);
        x.word(0, 0, 1, 0, 1, 0);
        DUE.is("9: none staged", x.changed(0), false);
        x.stage();
        DUE.is("9: written the same", x.changed(0), false);
        int[][] others = {{11, 0, 1, 0}, {1, 1, 1, 0}, {1, 0, 2, 0}, {1, 0, 1, 9}};
        for (int[] w : others) {
            x.withdraw();
            x.word(0, 0, w[0], w[1], w[2], w[3]);
            DUE.is("9: stage", x.stage(), 0);
            DUE.is("9: one number is another", x.changed(0), true);
            DUE.is("9: not the other procedure", x.changed(1), false);
        }
        x.withdraw();
        x.reset();
        x.word(0, 2, 0, 0, 0, 0);
        x.word(5, 0, 0, 0, 0, 0);
        x.cut(1, 0);
        x.stage();
        DUE.is("9: longer", x.changed(0), true);
        DUE.is("9: gone", x.changed(1), true);
        DUE.is("9: new", x.changed(5), true);
        DUE.is("9: never there", x.changed(4), false);
        DUE.is("9: procedure -1", x.changed(-1), false);
        DUE.is("9: procedure 6", x.changed(6), false);
        DUE.is("9: procedure MIN", x.changed(Code.MIN), false);
        DUE.is("9: procedure MAX", x.changed(Code.MAX), false);
        x.withdraw();
        DUE.is("9: withdrawn", x.changed(0), false);
    }

    private static void cutWordsDoNotCount() {
        SwitchedModules x = Code.running(Code.point(1), Code.ret(0));
        x.word(0, 2, 6, 0, 0, 0);
        x.cut(0, 2);
        x.spawn(0, 0);
        x.stage();
        DUE.is("9: as it was, with a word cut", x.changed(0), false);
        x.attempt(0);
        x.fields(0, 1);
        x.stage();
        DUE.is("9: the word that was cut had the type", x.changed(0), false);
        x.withdraw();
        Code.write(x, 0, Code.ret(0), Code.point(1));
        x.cut(0, 1);
        x.stage();
        DUE.is("10: the point that was cut is none", x.blocker(1), 1);
        x.withdraw();
        Code.write(x, 0, Code.point(1), Code.set(1, 1), Code.ret(0));
        x.stage();
        DUE.is("10: a point at place 0", x.blocker(1), 0);
    }

    private static void changedTypes() {
        SwitchedModules x = Code.running(Code.make(0, 0), Code.ret(0));
        Code.write(x, 1, Code.get(0, 0, 1), Code.ret(0));
        Code.write(x, 2, Code.put(0, 0, 1), Code.ret(0));
        Code.write(x, 3, Code.get(0, 0, 4), Code.make(0, 2), Code.ret(0));
        Code.write(x, 4, Code.set(0, 0), Code.keep(0, 0), Code.ret(0));
        Code.switchOver(x);
        x.fields(0, 2);
        x.stage();
        boolean[] want = {true, true, true, false, false, false};
        for (int p = 0; p < 6; p++) {
            DUE.is("9: uses type 0: " + p, x.changed(p), want[p]);
        }
        x.withdraw();
        x.reset();
        x.rule(1, 0, 1, 0, 0);
        Code.write(x, 4, Code.set(0, 0), Code.keep(0, 0), Code.ret(0));
        x.stage();
        DUE.is("9: type 1 by GET", x.changed(3), true);
        DUE.is("9: not type 0", x.changed(0), false);
        DUE.is("9: no type", x.changed(4), false);
        x.withdraw();
        DUE.is("9: after withdraw", x.stage(), 0);
        DUE.is("9: a type stays changed", x.changed(3), true);
        x.attempt(0);
        x.stage();
        DUE.is("9: not any more after the switch", x.changed(3), false);
    }

    /** "Whatever they said": fields() and rule() count also where they give a type what it had before. */
    private static void sameSaidAgainChangesTypes() {
        SwitchedModules x = Code.running(Code.make(0, 0), Code.ret(0));
        x.stage();
        DUE.is("9: not called", x.changed(0), false);
        x.withdraw();
        x.fields(0, 2);
        x.stage();
        DUE.is("9: fields() with as many as before", x.changed(0), true);
        x.attempt(0);
        x.rule(0, 0, 0, 0, 0);
        x.stage();
        DUE.is("9: rule() like having none", x.changed(0), true);
        x.withdraw();
        x.reset();
        x.stage();
        DUE.is("9: not any more after reset()", x.changed(0), false);
    }

    private static void refusedCallsChangeNoType() {
        SwitchedModules x = Code.running(Code.make(0, 0), Code.ret(0));
        DUE.is("4: too many fields", x.fields(0, 5), false);
        DUE.is("4: too few fields", x.fields(0, -1), false);
        DUE.is("5: no such field", x.rule(0, 4, 0, 0, 0), Code.BAD);
        DUE.is("5: no such kind", x.rule(0, 0, 3, 0, 0), Code.BAD);
        DUE.is("5: no such from", x.rule(0, 0, 1, 4, 0), Code.BAD);
        DUE.is("4: no such type", x.fields(3, 1), false);
        DUE.is("5: no such type", x.rule(-1, 0, 0, 0, 0), Code.BAD);
        x.stage();
        DUE.is("9: all calls were refused", x.changed(0), false);
    }

    /** A staged draft cannot be changed: neither a changed type nor an object made over comes of a refused call. */
    private static void refusedWhileStagedChangesNoType() {
        SwitchedModules x = Code.running(Code.make(1, 0), Code.set(2, 7), Code.put(1, 2, 0), Code.keep(1, 0),
            Code.ret(0));
        x.spawn(0, 0);
        x.step(1, 9);
        x.spawn(0, 0);
        x.stage();
        DUE.is("4: staged", x.fields(0, 1), false);
        DUE.is("9: fields() was refused", x.changed(0), false);
        DUE.is("5: staged", x.rule(0, 0, 0, 0, 3), Code.NO);
        DUE.is("9: rule() was refused", x.changed(0), false);
        DUE.is("10: no frame stands in the way", x.blocker(1), 0);
        DUE.is("11: no fuel is needed", x.attempt(0), 1);
        DUE.is("11: the object is as it was", x.field(1, 0), 7);
        x.stage();
        x.fields(0, 1);
        x.withdraw();
        x.stage();
        DUE.is("9: nor after withdraw()", x.changed(0), false);
    }

    private static void blocker() {
        SwitchedModules x = Code.running(Code.set(1, 1), Code.ret(0));
        Code.write(x, 1, Code.set(1, 1), Code.ret(0));
        Code.switchOver(x);
        int[] procedures = {1, 0, 1, 0, 0, 1};
        for (int p : procedures) {
            x.spawn(p, 0);
        }
        x.word(0, 0, 1, 1, 2, 0);
        DUE.is("10: nothing staged", x.blocker(1), 0);
        x.stage();
        int[] want = {2, 2, 2, 4, 4, 5, 0, 0};
        for (int from = 0; from < want.length; from++) {
            DUE.is("10: from " + from, x.blocker(from), want[from]);
        }
        DUE.is("10: from MIN", x.blocker(Code.MIN), 2);
        DUE.is("10: from MAX", x.blocker(Code.MAX), 0);
        x.step(2, 9);
        DUE.is("10: an ended task has no frames", x.blocker(1), 4);
        x.withdraw();
        DUE.is("10: withdrawn", x.blocker(1), 0);
        x.reset();
        x.stage();
        DUE.is("24: with six tasks", x.collect(), 0);
        DUE.is("11: with six tasks", x.attempt(0), 1);
        DUE.is("11: their places stay", x.frame(6, 0, 1), 0);
    }

    private static void pointsOnTopAlone() {
        SwitchedModules x = Code.runningAll(
            new int[][] {Code.point(2), Code.call(1, 1, 0), Code.point(2), Code.ret(0)},
            new int[][] {Code.set(0, 0), Code.ret(0)});
        x.spawn(0, 0);
        x.word(0, 3, 0, 1, 0, 0);
        x.stage();
        DUE.is("10: on top at a point of both", x.blocker(1), 0);
        x.step(1, 1);
        DUE.is("10: next is no point", x.blocker(1), 1);
        x.step(1, 1);
        DUE.is("10: at a point, but not on top", x.frame(1, 0, 1), 2);
        DUE.is("10: below stands in the way", x.blocker(1), 1);
        DUE.is("11: below stands in the way", x.attempt(9), 0);
        x.step(1, 2);
        DUE.is("10: on top again", x.blocker(1), 0);
        x.withdraw();
        x.word(0, 0, 12, 1, 0, 0);
        x.word(0, 2, 12, 3, 0, 0);
        x.stage();
        DUE.is("10: the draft has other points", x.blocker(1), 1);
        x.withdraw();
        x.word(0, 1, 12, 2, 0, 0);
        x.stage();
        DUE.is("10: the draft has it elsewhere", x.blocker(1), 0);
        x.withdraw();
        x.cut(0, 0);
        x.stage();
        DUE.is("10: the draft has it no more", x.blocker(1), 1);
    }

    private static void attemptWithoutDoing() {
        SwitchedModules x = Code.running(Code.make(0, 0), Code.set(0, 0), Code.set(0, 0), Code.ret(0));
        x.spawn(0, 0);
        x.step(1, 2);
        DUE.is("11: fuel -1, nothing staged", x.attempt(-1), Code.BAD);
        DUE.is("11: nothing staged", x.attempt(0), 3);
        DUE.is("11: nothing is done", x.heap(), 1);
        x.word(0, 1, 1, 1, 1, 1);
        x.stage();
        DUE.is("11: fuel -1", x.attempt(-1), Code.BAD);
        DUE.is("11: fuel MIN", x.attempt(Code.MIN), Code.BAD);
        DUE.is("11: in the way", x.attempt(Code.MAX), 0);
        DUE.is("11: nothing is dropped", x.heap(), 1);
        DUE.is("11: it stays staged", x.stage(), Code.NO);
        DUE.is("11: version", x.version(), 1);
        x.step(1, 9);
        DUE.is("11: no frame any more", x.attempt(0), 1);
        DUE.is("11: objects that cannot be reached go", x.heap(), 0);
        DUE.is("11: nothing staged any more", x.attempt(0), 3);
        DUE.is("11: version then", x.version(), 2);
    }

    private static void framesGoToPoints() {
        SwitchedModules x = Code.runningAll(
            new int[][] {Code.call(2, 1, 0), Code.ret(2)},
            new int[][] {Code.set(1, 8), Code.point(3), Code.ret(0)},
            new int[][] {Code.point(0), Code.point(1), Code.ret(0)});
        x.spawn(0, 6);
        x.spawn(2, 0);
        x.spawn(2, 0);
        x.step(1, 2);
        x.step(3, 1);
        Code.write(x, 1, Code.point(2), Code.point(0), Code.set(1, 9), Code.point(3), Code.point(3), Code.ret(1));
        Code.write(x, 2, Code.set(0, 1), Code.point(1), Code.point(1), Code.point(0), Code.ret(0));
        x.stage();
        DUE.is("11: taken", x.attempt(0), 1);
        DUE.is("11: the first point of its number", x.frame(1, 1, 1), 3);
        DUE.is("11: an unchanged frame keeps its place", x.frame(1, 0, 1), 1);
        DUE.is("11: point 0", x.frame(2, 0, 1), 3);
        DUE.is("11: point 1", x.frame(3, 0, 1), 1);
        DUE.is("11: locals stay", x.frame(1, 1, 3), 8);
        DUE.is("11: goes on there", x.step(1, 99), 2);
        DUE.is("11: the new procedure answers", x.result(1), 8);
        x.step(3, 1);
        x.stage();
        x.attempt(0);
        DUE.is("11: unchanged at a second point", x.frame(3, 0, 1), 2);
        x.fields(0, 2);
        x.stage();
        x.attempt(0);
        DUE.is("11: a type that it does not use", x.frame(3, 0, 1), 2);
    }

    /** Three objects: 1 of type 0 (7, 2), 2 of type 1 (2, 0, 0, -5), 3 of type 0 (0, 3); 1 and 2 are in globals. */
    private static SwitchedModules withObjects() {
        SwitchedModules x = Code.running(Code.make(1, 0), Code.keep(1, 0), Code.put(1, 0, 0), Code.set(2, 2),
            Code.put(1, 2, 1), Code.make(0, 1), Code.keep(0, 1), Code.put(0, 2, 4), Code.set(2, -5),
            Code.put(0, 2, 7), Code.ret(0));
        Code.write(x, 1, Code.make(1, 0), Code.put(1, 0, 1), Code.keep(1, 2), Code.ret(1));
        Code.switchOver(x);
        x.spawn(0, 7);
        x.step(1, 20);
        x.spawn(1, 3);
        x.step(2, 20);
        return x;
    }

    private static void sees(String what, SwitchedModules x, int object, int... values) {
        for (int f = 0; f < 4; f++) {
            DUE.is(what + ", field " + f + " of " + object, x.field(object, f), f < values.length ? values[f] : 0);
        }
    }

    private static void madeOver() {
        SwitchedModules x = withObjects();
        sees("before", x, 1, 7, 2);
        sees("before", x, 2, 2, 0, 0, -5);
        sees("before", x, 3, 0, 3);
        x.fields(0, 4);
        x.rule(0, 0, 1, 1, Code.MAX);
        x.rule(0, 1, 2, 1, -7);
        x.rule(0, 3, 1, 0, 1);
        x.stage();
        DUE.is("11: made over", x.attempt(8), 1);
        sees("11: by rules", x, 1, Code.MIN + 1, -3, 0, 8);
        sees("11: by rules", x, 3, Code.MIN + 2, -2, 0, 1);
        sees("11: not of a changed type", x, 2, 2, 0, 0, -5);
        DUE.is("11: type stays", x.typeOf(3), 0);
        x.rule(0, 2, 0, 3, -4);
        x.rule(0, 1, 1, 1, 2);
        x.rule(1, 0, 1, 0, -3);
        Code.switchOver(x);
        sees("11: fields without a rule are 0", x, 1, 0, -1, -4, 0);
        sees("11: and kind 0", x, 3, 0, 0, -4, 0);
        sees("11: the other type", x, 2, -1);
        x.cut(0, 0);
        x.cut(1, 0);
        x.rule(1, 1, 2, 0, Code.MIN);
        x.fields(0, 1);
        x.rule(0, 0, 1, 2, 0);
        Code.switchOver(x);
        sees("11: divided, wrapping", x, 2, 0, Code.MIN);
        sees("11: fewer fields, from one that goes", x, 1, -4);
        x.fields(0, 3);
        x.rule(0, 2, 1, 0, 0);
        Code.switchOver(x);
        sees("11: more again", x, 1, 0, 0, -4);
    }

    private static void faultsLeaveAllAsItWas() {
        SwitchedModules x = withObjects();
        x.fields(0, 2);
        x.rule(0, 0, 0, 0, 99);
        x.rule(0, 1, 2, 0, 14);
        x.stage();
        DUE.is("11: the second object has a 0", x.attempt(100), 2);
        DUE.is("11: it stays staged", x.stage(), Code.NO);
        DUE.is("11: the version stays", x.version(), 2);
        sees("11: as it was", x, 1, 7, 2);
        sees("11: as it was", x, 2, 2, 0, 0, -5);
        sees("11: as it was", x, 3, 0, 3);
        DUE.is("11: again", x.attempt(100), 2);
        x.withdraw();
        x.rule(0, 1, 2, 1, 14);
        x.stage();
        DUE.is("11: another rule", x.attempt(100), 1);
        sees("11: made over then", x, 1, 99, 7);
        sees("11: made over then", x, 3, 99, 4);
    }

    private static void lastObjectIsMadeOver() {
        SwitchedModules x = Code.running(Code.point(0), Code.make(1, 2), Code.keep(1, 0), Code.put(1, 0, 8),
            Code.jump(2, 0), Code.ret(0));
        x.spawn(0, 1);
        x.step(1, 80);
        DUE.is("11: sixteen objects", x.heap(), 16);
        x.rule(2, 0, 2, 0, 8);
        x.stage();
        DUE.is("11: 16 and, by the task's argument, 1 can be reached", x.attempt(2), 1);
        DUE.is("11: two objects", x.heap(), 2);
        DUE.is("11: the first one is made over, 8 by 1", x.field(1, 0), 8);
        DUE.is("11: the last one is made over, 8 by 1", x.field(16, 0), 8);
    }

    private static void fuel() {
        SwitchedModules x = withObjects();
        x.fields(0, 3);
        x.rule(0, 0, 1, 0, 1);
        x.rule(1, 0, 1, 3, 0);
        x.stage();
        for (int fuel = 0; fuel < 10; fuel++) {
            DUE.is("11: fuel " + fuel, x.attempt(fuel), 2);
            sees("11: not enough", x, 1, 7, 2);
            sees("11: not enough", x, 2, 2, 0, 0, -5);
        }
        DUE.is("11: 3 + 4 + 3", x.attempt(10), 1);
        sees("11: enough", x, 1, 8);
        sees("11: enough", x, 2, -5);
        sees("11: enough", x, 3, 1);
        x.fields(0, 0);
        Code.write(x, 0, Code.ret(0));
        Code.write(x, 1, Code.ret(0));
        x.stage();
        DUE.is("11: no fields cost nothing", x.attempt(0), 1);
    }

    private static void droppedBeforeMadeOver() {
        SwitchedModules x = withObjects();
        Code.write(x, 2, Code.keep(0, 2), Code.ret(0));
        Code.switchOver(x);
        x.spawn(2, 0);
        x.step(3, 9);
        DUE.is("11: object 3 is still there", x.typeOf(3), 0);
        x.rule(0, 0, 2, 0, 21);
        x.stage();
        DUE.is("11: too little fuel", x.attempt(1), 2);
        DUE.is("11: what cannot be reached is gone all the same", x.typeOf(3), Code.BAD);
        DUE.is("11: its 0 is no fault, and it costs nothing", x.attempt(2), 1);
        sees("11: made over", x, 1, 3);
    }

    private static void typeGoes() {
        SwitchedModules x = withObjects();
        x.cut(0, 0);
        x.cut(1, 0);
        x.fields(0, 0);
        Code.switchOver(x);
        DUE.is("11: an object of a type that is gone", x.typeOf(1), 0);
        DUE.is("11: they are still there", x.heap(), 3);
        sees("11: no fields", x, 1);
        x.fields(0, 2);
        x.rule(0, 1, 0, 0, 5);
        x.rule(0, 0, 1, 0, 5);
        DUE.is("7: it had no fields", x.stage(), -200);
        x.rule(0, 0, 0, 0, 6);
        Code.switchOver(x);
        sees("11: fields again", x, 3, 6, 5);
    }

    private static void rulesGoWithTheSwitch() {
        SwitchedModules x = withObjects();
        x.rule(0, 0, 1, 0, 10);
        x.rule(0, 1, 1, 1, 10);
        Code.switchOver(x);
        sees("11: both rules", x, 1, 17, 12);
        x.rule(0, 1, 1, 1, 10);
        Code.switchOver(x);
        sees("11: one rule", x, 1, 0, 22);
        Code.switchOver(x);
        sees("11: no type changed", x, 1, 0, 22);
    }

    private static void version() {
        SwitchedModules x = new SwitchedModules();
        for (int v = 0; v < 20; v++) {
            DUE.is("12: version", x.version(), v);
            x.stage();
            DUE.is("12: staged only", x.version(), v);
            DUE.is("12: attempt", x.attempt(0), 1);
        }
        DUE.is("12: attempt", x.attempt(0), 3);
        DUE.is("12: version", x.version(), 20);
    }
}
