/** The edges in 'What it is' and, in 'Terms', before the instructions: a method a sentence. */
public final class EdgeTermsTest {
    private static final Due DUE = new Due();
    private static final int[] BESIDE_1_TO_16 = {Code.MIN, -1, 0, 17, Code.MAX};

    public static void main(String[] args) {
        usedForAtMost512Calls();
        stepsInAllOf512Calls();
        versionHasProcedures0To5();
        procedureHas0To12Instructions();
        procedureOfNoInstructionsIsNotThere();
        versionHasTypes0To2();
        typeHas0To4Fields();
        typeOfNoFieldsIsNotThere();
        presentVersionIsNumber0WithNothingThere();
        draftIsTheSameAtFirst();
        draftHasARuleForEachTypesField();
        objectsHaveNumbers1To16();
        objectHasAnIntForEachField();
        globals0To3AreIntsAnd0AtFirst();
        tasksAreNumbered1To6();
        queueHasAtMost8Ints();
        taskHasAtMost6Frames();
        frameHasAPlaceAndThreeLocals();
        reachableByAGlobal();
        reachableByALocalOfAnyFrame();
        reachableByAFieldOfAReachableObject();
        reachableByNothingElse();
        DUE.end();
    }

    /** "An object is used for at most 512 calls after it has been made; what later calls answer is free." */
    private static void usedForAtMost512Calls() {
        SwitchedModules x = new SwitchedModules();
        for (int v = 1; v <= 255; v++) {
            DUE.is("stage, call " + (2 * v - 1), x.stage(), 0);
            DUE.is("attempt, call " + 2 * v, x.attempt(0), 1);
        }
        DUE.is("stage, call 511", x.stage(), 0);
        DUE.is("version, call 512", x.version(), 255);
        for (int i = 0; i < 2000; i++) {
            // What these answer is free, but nothing is thrown (LANGUAGE.md, rule 7).
            x.attempt(0);
            x.stage();
            x.spawn(0, 0);
            x.send(1, 0);
        }
    }

    /** The same, with the dearest call as each of them: a loop of two instructions counts in local 0. */
    private static void stepsInAllOf512Calls() {
        SwitchedModules x = new SwitchedModules();
        Code.write(x, 0, Code.set(1, 1), Code.add(0, 0, 1), Code.jump(2, 1), Code.ret(0));
        Code.switchOver(x);
        x.spawn(0, 0);
        for (int call = 9; call <= 511; call++) {
            DUE.is("step, call " + call, x.step(1, 200), 0);
        }
        DUE.is("frame, call 512", x.frame(1, 0, 2), 503 * 200 / 2);
    }

    /** "A VERSION has PROCEDURES 0 .. 5" */
    private static void versionHasProcedures0To5() {
        SwitchedModules x = new SwitchedModules();
        for (int p : new int[] {Code.MIN, -1, 6, Code.MAX}) {
            DUE.is("word of procedure " + p, x.word(p, 0, 0, 0, 0, 0), Code.BAD);
        }
        for (int p = 0; p <= 5; p++) {
            DUE.is("word of procedure " + p, x.word(p, 0, 1, 1, 100 + p, 0), 1);
            DUE.is("its second word", x.word(p, 1, 0, 1, 0, 0), 2);
        }
        Code.switchOver(x);
        for (int p = 0; p <= 5; p++) {
            DUE.is("spawn of procedure " + p, x.spawn(p, 0), p + 1);
            DUE.is("it ends", x.step(p + 1, 2), 2);
            DUE.is("each has its own instructions", x.result(p + 1), 100 + p);
        }
    }

    /** "each with 0 to 12 instructions" */
    private static void procedureHas0To12Instructions() {
        SwitchedModules x = new SwitchedModules();
        x.word(4, 0, 1, 1, 1, 0);
        for (int i = 1; i < 11; i++) {
            x.word(4, i, 2, 0, 0, 1);
        }
        DUE.is("the twelfth instruction", x.word(4, 11, 0, 0, 0, 0), 12);
        DUE.is("a thirteenth", x.word(4, 12, 0, 0, 0, 0), Code.BAD);
        DUE.is("none in the procedure after it", x.cut(5, 1), false);
        DUE.is("twelve can be staged", x.stage(), 0);
        DUE.is("and take the place", x.attempt(0), 1);
        x.spawn(4, 50);
        DUE.is("eleven steps", x.step(1, 11), 0);
        DUE.is("the twelfth ends it", x.step(1, 1), 2);
        DUE.is("all of them are done", x.result(1), 60);
    }

    /** "(0: it is not there)" */
    private static void procedureOfNoInstructionsIsNotThere() {
        SwitchedModules x = Code.runningAll(new int[][] {Code.ret(0)}, new int[][] {Code.call(0, 0, 0), Code.ret(0)});
        DUE.is("one instruction is there", x.spawn(0, 0), 1);
        x.step(1, 1);
        x.cut(0, 0);
        DUE.is("a CALL of what is not there", x.stage(), -112);
        x.cut(1, 0);
        DUE.is("none there", x.stage(), 0);
        DUE.is("none there", x.attempt(0), 1);
        DUE.is("not there any more", x.spawn(0, 0), Code.BAD);
    }

    /** "and TYPES 0 .. 2" */
    private static void versionHasTypes0To2() {
        SwitchedModules x = new SwitchedModules();
        for (int t : new int[] {Code.MIN, -1, 3, Code.MAX}) {
            DUE.is("fields of type " + t, x.fields(t, 1), false);
            DUE.is("rule of type " + t, x.rule(t, 0, 0, 0, 0), Code.BAD);
        }
        for (int t = 0; t <= 2; t++) {
            DUE.is("fields of type " + t, x.fields(t, 1), true);
            DUE.is("rule of type " + t, x.rule(t, 0, 0, 0, 0), 0);
        }
        Code.write(x, 0, Code.make(0, 0), Code.make(1, 1), Code.make(2, 2), Code.await(0), Code.ret(0));
        Code.switchOver(x);
        x.spawn(0, 0);
        DUE.is("objects of all three", x.step(1, 9), 1);
        for (int t = 0; t <= 2; t++) {
            DUE.is("type " + t, x.typeOf(t + 1), t);
        }
    }

    /** "each with 0 to 4 FIELDS" */
    private static void typeHas0To4Fields() {
        for (int t = 0; t <= 2; t++) {
            SwitchedModules x = new SwitchedModules();
            DUE.is("-1 fields", x.fields(t, -1), false);
            DUE.is("5 fields", x.fields(t, 5), false);
            DUE.is("MIN fields", x.fields(t, Code.MIN), false);
            DUE.is("MAX fields", x.fields(t, Code.MAX), false);
            DUE.is("0 fields", x.fields(t, 0), true);
            DUE.is("no field 0", x.rule(t, 0, 0, 0, 0), Code.BAD);
            DUE.is("4 fields", x.fields(t, 4), true);
            DUE.is("a field 3", x.rule(t, 3, 0, 0, 0), 0);
            DUE.is("no field 4", x.rule(t, 4, 0, 0, 0), Code.BAD);
            Code.write(x, 0, Code.make(1, t), Code.put(1, 0, 4 * t + 3), Code.get(0, 1, 4 * t + 3), Code.keep(1, 0),
                Code.ret(0));
            Code.switchOver(x);
            x.spawn(0, 88);
            DUE.is("its last field can be used", x.step(1, 9), 2);
            DUE.is("field 3", x.field(1, 3), 88);
        }
    }

    /** "(0: it is not there)" */
    private static void typeOfNoFieldsIsNotThere() {
        for (int t = 0; t <= 2; t++) {
            SwitchedModules x = new SwitchedModules();
            Code.write(x, 0, Code.make(0, t), Code.ret(0));
            DUE.is("a NEW of a type never there", x.stage(), -100);
            x.fields(t, 1);
            DUE.is("one field is there", x.stage(), 0);
            DUE.is("one field is there", x.attempt(0), 1);
            x.fields(t, 0);
            DUE.is("a NEW of a type that is gone", x.stage(), -100);
        }
    }

    /** "THE PRESENT VERSION (number 0 at first, with nothing there) is run" */
    private static void presentVersionIsNumber0WithNothingThere() {
        SwitchedModules x = new SwitchedModules();
        DUE.is("number", x.version(), 0);
        for (int p = 0; p <= 5; p++) {
            DUE.is("no procedure " + p, x.spawn(p, 0), Code.BAD);
        }
        for (int t = 0; t <= 2; t++) {
            SwitchedModules y = new SwitchedModules();
            y.fields(t, 1);
            y.rule(t, 0, 1, 0, 0);
            DUE.is("type " + t + " has no field 0 in it", y.stage(), -200 - 4 * t);
        }
        x.word(0, 0, 0, 0, 0, 0);
        x.stage();
        DUE.is("the draft is not run", x.spawn(0, 0), Code.BAD);
    }

    /** "THE DRAFT (at first the same) is what will be the next one." */
    private static void draftIsTheSameAtFirst() {
        SwitchedModules x = new SwitchedModules();
        for (int p = 0; p <= 5; p++) {
            DUE.is("no instruction in " + p, x.cut(p, 1), false);
        }
        for (int t = 0; t <= 2; t++) {
            DUE.is("no field in " + t, x.rule(t, 0, 0, 0, 0), Code.BAD);
        }
        DUE.is("it can be staged", x.stage(), 0);
        for (int p = 0; p <= 5; p++) {
            DUE.is("it does not change " + p, x.changed(p), false);
        }
        DUE.is("it can take the place", x.attempt(0), 1);
    }

    /** "It also has, for each type's field, a RULE." */
    private static void draftHasARuleForEachTypesField() {
        SwitchedModules x = new SwitchedModules();
        for (int t = 0; t <= 2; t++) {
            x.fields(t, 4);
        }
        Code.write(x, 0, Code.make(0, 0), Code.make(1, 1), Code.make(2, 2), Code.keep(0, 0), Code.keep(1, 1),
            Code.keep(2, 2), Code.ret(0));
        Code.switchOver(x);
        x.spawn(0, 0);
        x.step(1, 9);
        for (int r = 0; r < 12; r++) {
            DUE.is("rule " + r, x.rule(r / 4, r % 4, 0, 0, 900 + r), 0);
        }
        x.stage();
        DUE.is("twelve fields", x.attempt(12), 1);
        for (int r = 0; r < 12; r++) {
            DUE.is("by rule " + r, x.field(1 + r / 4, r % 4), 900 + r);
        }
    }

    /** Procedure 0 makes objects of type 2 and chains them, so that all of them can be reached from global 0. */
    private static SwitchedModules chaining() {
        return Code.runningAll(
            new int[][] {Code.make(1, 2), Code.load(0, 0), Code.put(1, 0, 8), Code.keep(1, 0), Code.jump(2, 0),
                Code.ret(0)},
            new int[][] {Code.keep(0, 0), Code.ret(0)});
    }

    /** "OBJECTS have numbers 1 .. 16" */
    private static void objectsHaveNumbers1To16() {
        SwitchedModules x = chaining();
        x.spawn(0, 0);
        for (int o = 1; o <= 16; o++) {
            DUE.is("not yet " + o, x.typeOf(o), Code.BAD);
            DUE.is("NEW", x.step(1, 5), 0);
            DUE.is("its number", x.global(0), o);
            DUE.is("it is there", x.typeOf(o), 2);
            DUE.is("so many", x.heap(), o);
        }
        for (int o : BESIDE_1_TO_16) {
            DUE.is("no object " + o, x.typeOf(o), Code.BAD);
        }
        DUE.is("no seventeenth", x.step(1, 1), 3);
        DUE.is("no seventeenth", x.heap(), 16);
    }

    /** "a type, and an int for each of its fields." */
    private static void objectHasAnIntForEachField() {
        for (int n = 1; n <= 4; n++) {
            SwitchedModules x = new SwitchedModules();
            x.fields(1, n);
            Code.write(x, 0, Code.make(1, 1), Code.put(1, 0, 4), Code.set(2, Code.MAX), Code.put(1, 2, 3 + n),
                Code.keep(1, 3), Code.make(2, 1), Code.keep(2, 2), Code.ret(0));
            Code.switchOver(x);
            x.spawn(0, Code.MIN);
            x.step(1, 9);
            for (int f = -1; f <= 4; f++) {
                int want = f == n - 1 ? Code.MAX : f == 0 ? Code.MIN : 0;
                DUE.is("field " + f + " of " + n, x.field(1, f), want);
                DUE.is("field " + f + " of another object", x.field(2, f), 0);
            }
        }
    }

    /** "GLOBALS 0 .. 3 are ints, 0 at first." */
    private static void globals0To3AreIntsAnd0AtFirst() {
        int[] values = {Code.MIN, Code.MAX, -1, 16};
        SwitchedModules x = Code.runningAll(new int[][] {Code.keep(0, 0), Code.ret(0)},
            new int[][] {Code.keep(0, 1), Code.ret(0)}, new int[][] {Code.keep(0, 2), Code.ret(0)},
            new int[][] {Code.keep(0, 3), Code.ret(0)});
        for (int g = 0; g <= 3; g++) {
            DUE.is("at first, global " + g, x.global(g), 0);
            x.spawn(g, values[g]);
            x.step(g + 1, 2);
            DUE.is("then, global " + g, x.global(g), values[g]);
        }
        for (int g = 0; g <= 3; g++) {
            DUE.is("each its own, global " + g, x.global(g), values[g]);
        }
        DUE.is("none below 0", x.global(-1), 0);
        DUE.is("none beyond 3", x.global(4), 0);
    }

    /** "TASKS are numbered 1, 2, .. 6, as they begin" */
    private static void tasksAreNumbered1To6() {
        SwitchedModules x = Code.running(Code.ret(0));
        for (int task = 1; task <= 6; task++) {
            DUE.is("not yet " + task, x.state(task), Code.BAD);
            DUE.is("the next number", x.spawn(0, 0), task);
            DUE.is("it is there", x.state(task), 0);
            x.step(task, 1);
        }
        DUE.is("no seventh", x.spawn(0, 0), Code.FULL);
        DUE.is("no task 0", x.state(0), Code.BAD);
        DUE.is("no task 7", x.state(7), Code.BAD);
    }

    /** "a task has a QUEUE of at most 8 ints" */
    private static void queueHasAtMost8Ints() {
        SwitchedModules x = Code.running(Code.await(0), Code.keep(0, 0), Code.jump(2, 0), Code.ret(0));
        x.spawn(0, 0);
        x.spawn(0, 0);
        for (int n = 1; n <= 8; n++) {
            DUE.is("int " + n, x.send(1, n == 8 ? Code.MIN : Code.MAX - n), n);
        }
        DUE.is("a ninth", x.send(1, 9), Code.FULL);
        DUE.is("each task has its own", x.send(2, 1), 1);
        for (int n = 1; n <= 8; n++) {
            DUE.is("one is taken", x.step(1, 3), 0);
            DUE.is("in their order", x.global(0), n == 8 ? Code.MIN : Code.MAX - n);
        }
        DUE.is("the ninth has not come", x.step(1, 3), 1);
    }

    /** "and FRAMES, at most 6, the latest one on top." */
    private static void taskHasAtMost6Frames() {
        SwitchedModules x = Code.runningAll(
            new int[][] {Code.call(1, 1, 0), Code.ret(1)}, new int[][] {Code.call(1, 2, 0), Code.ret(1)},
            new int[][] {Code.call(1, 3, 0), Code.ret(1)}, new int[][] {Code.call(1, 4, 0), Code.ret(1)},
            new int[][] {Code.call(1, 5, 0), Code.ret(1)},
            new int[][] {Code.point(0), Code.call(1, 0, 0), Code.ret(0)});
        x.spawn(0, 3);
        DUE.is("five calls", x.step(1, 5), 0);
        DUE.is("six frames", x.frames(1), 6);
        for (int k = 0; k < 6; k++) {
            DUE.is("the latest on top, frame " + k, x.frame(1, k, 0), k);
        }
        DUE.is("none above", x.frame(1, 6, 0), Code.BAD);
        DUE.is("six are no fault", x.step(1, 1), 0);
        DUE.is("a seventh is", x.step(1, 1), 3);
    }

    /** "A FRAME is of a procedure, has a PLACE there (the next instruction) and LOCALS 0, 1, 2 (ints)." */
    private static void frameHasAPlaceAndThreeLocals() {
        SwitchedModules x = new SwitchedModules();
        x.word(5, 0, 1, 1, Code.MAX, 0);
        x.word(5, 1, 1, 2, -1, 0);
        for (int i = 2; i < 11; i++) {
            x.word(5, i, 12, 0, 0, 0);
        }
        x.word(5, 11, 0, 0, 0, 0);
        Code.switchOver(x);
        x.spawn(5, Code.MIN);
        for (int place = 0; place < 12; place++) {
            DUE.is("place " + place, x.frame(1, 0, 1), place);
            if (place < 11) {
                x.step(1, 1);
            }
        }
        int[] want = {5, 11, Code.MIN, Code.MAX, -1};
        for (int what = 0; what < 5; what++) {
            DUE.is("what " + what, x.frame(1, 0, what), want[what]);
        }
    }

    /** "An object is REACHABLE when its number is the value of a global" */
    private static void reachableByAGlobal() {
        for (int g = 0; g <= 3; g++) {
            for (int o : new int[] {1, 16, 0, 17, -1}) {
                SwitchedModules x = Code.runningAll(
                    new int[][] {Code.make(1, 2), Code.jump(2, 0), Code.ret(0)},
                    new int[][] {Code.keep(0, g), Code.set(0, 0), Code.set(1, 0), Code.ret(0)});
                x.spawn(0, 0);
                x.step(1, 31);
                x.spawn(1, o);
                x.step(2, 9);
                // Task 1 still holds 16 in its local 1.
                DUE.is("global " + g + " is " + o, x.collect(), o == 1 ? 14 : 15);
                DUE.is("object 1", x.typeOf(1), o == 1 ? 2 : Code.BAD);
                DUE.is("object 16", x.typeOf(16), 2);
            }
        }
    }

    /** "of a local of any frame" */
    private static void reachableByALocalOfAnyFrame() {
        for (int local = 0; local <= 2; local++) {
            for (int task = 1; task <= 6; task++) {
                for (int depth = 1; depth <= 6; depth++) {
                    heldByTheLowestFrame(local, task, depth);
                    heldByTheTopFrame(local, task, depth);
                }
            }
        }
    }

    /** Six tasks of procedure 5, which have not run; the one asked for is of procedure 0. */
    private static void spawnSix(SwitchedModules x, int task, int argument) {
        for (int n = 1; n <= 6; n++) {
            x.spawn(n == task ? 0 : 5, n == task ? argument : 0);
        }
    }

    private static void heldByTheLowestFrame(int local, int task, int depth) {
        int other = (local + 1) % 3;
        int[][] none = {};
        SwitchedModules x = Code.runningAll(
            new int[][] {Code.make(local, 2), Code.call(other, 1, other), Code.ret(0)},
            new int[][] {Code.call(0, 1, 0), Code.ret(0)}, none, none, none, new int[][] {Code.ret(0)});
        spawnSix(x, task, 0);
        x.step(task, depth);
        String what = "local " + local + " of the lowest of " + depth + " frames of task " + task;
        DUE.is(what, x.frames(task), depth);
        DUE.is(what + " holds it", x.collect(), 0);
        DUE.is(what + " holds it", x.typeOf(1), 2);
    }

    /** Counts up to 0 from below, a frame a time, so that no other local is an object's number. */
    private static void heldByTheTopFrame(int local, int task, int depth) {
        int[][] none = {};
        SwitchedModules x = Code.runningAll(
            new int[][] {Code.jump(0, 5), Code.set(1, -1), Code.sub(0, 0, 1), Code.call(2, 0, 0), Code.ret(2),
                Code.make(local, 2), Code.set(local, 0), Code.ret(0)},
            none, none, none, none, new int[][] {Code.ret(0)});
        spawnSix(x, task, 1 - depth);
        x.step(task, 4 * (depth - 1) + 2);
        String what = "local " + local + " of the top of " + depth + " frames of task " + task;
        DUE.is(what, x.frames(task), depth);
        DUE.is(what + " holds it", x.collect(), 0);
        DUE.is(what + " holds it", x.typeOf(1), 2);
        x.step(task, 1);
        DUE.is(what + " holds it no more", x.collect(), 1);
    }

    /** "or of a field of a reachable object." */
    private static void reachableByAFieldOfAReachableObject() {
        for (int f = 0; f <= 3; f++) {
            SwitchedModules x = Code.runningAll(
                new int[][] {Code.make(1, 1), Code.load(0, 0), Code.put(1, 0, 4 + f), Code.keep(1, 0), Code.jump(2, 0),
                    Code.ret(0)},
                new int[][] {Code.keep(0, 0), Code.ret(0)});
            x.spawn(0, 0);
            x.step(1, 80);
            DUE.is("sixteen in a chain", x.heap(), 16);
            DUE.is("by field " + f + " all are reachable", x.collect(), 0);
            DUE.is("none is free, a fault", x.step(1, 1), 3);
            x.spawn(1, 9);
            x.step(2, 2);
            DUE.is("from 9 down", x.collect(), 7);
            DUE.is("9 is there", x.typeOf(9), 1);
            DUE.is("10 is not", x.typeOf(10), Code.BAD);
            x.spawn(1, 0);
            x.step(3, 2);
            DUE.is("then none", x.collect(), 9);
        }
    }

    /** The same sentence: what it does not name holds no object. */
    private static void reachableByNothingElse() {
        SwitchedModules x = Code.runningAll(
            new int[][] {Code.make(1, 0), Code.ret(1)},
            new int[][] {Code.await(2), Code.call(2, 2, 0), Code.ret(0)},
            new int[][] {Code.make(1, 0), Code.get(0, 1, 4), Code.ret(0)},
            new int[][] {Code.make(1, 0), Code.put(1, 1, 0), Code.put(1, 1, 1), Code.set(1, 0), Code.point(0),
                Code.ret(0)});
        x.spawn(0, 0);
        DUE.is("it ends", x.step(1, 2), 2);
        DUE.is("with the number as its result", x.result(1), 1);
        x.spawn(1, 0);
        DUE.is("the number in a queue", x.send(2, 1), 1);
        DUE.is("neither a result nor a queue", x.collect(), 1);
        x.send(2, 0);
        DUE.is("a fault with an object in a local", x.step(2, 9), 3);
        DUE.is("no frame that is gone", x.collect(), 1);
        x.spawn(3, 0);
        x.step(3, 4);
        DUE.is("its own fields hold its number", x.field(1, 0), 1);
        DUE.is("but no field of one that is not reachable", x.collect(), 1);
        fieldsOfTheNextNumbersHoldNothing();
    }

    /** Objects 1, 2 and 3 of four fields, of which 2 is reachable, and 1 and 3 hold 4 and 5 in all of theirs. */
    private static void fieldsOfTheNextNumbersHoldNothing() {
        SwitchedModules x = Code.runningAll(
            new int[][] {Code.call(1, 1, 0), Code.make(1, 1), Code.keep(1, 0), Code.set(0, 5), Code.call(1, 1, 0),
                Code.make(1, 1), Code.make(1, 1), Code.ret(0)},
            new int[][] {Code.make(1, 1), Code.put(1, 0, 4), Code.put(1, 0, 5), Code.put(1, 0, 6), Code.put(1, 0, 7),
                Code.ret(0)});
        x.spawn(0, 4);
        DUE.is("it ends", x.step(1, 200), 2);
        DUE.is("five objects", x.heap(), 5);
        DUE.is("the last field of the one before", x.field(1, 3), 4);
        DUE.is("the first field of the one after", x.field(3, 0), 5);
        DUE.is("neither of them holds another", x.collect(), 4);
        DUE.is("2 is there", x.typeOf(2), 1);
    }
}
