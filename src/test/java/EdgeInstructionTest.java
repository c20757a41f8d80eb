/** What the document says of the edges of each instruction, with what is a fault: a method a sentence. */
public final class EdgeInstructionTest {
    private static final Due DUE = new Due();

    public static void main(String[] args) {
        addedAndSubtractedWrapping();
        placeGoesOnByOne();
        returnIntoTheFrameBelow();
        returnWithNoneBelowEndsTheTask();
        set();
        jumpIfZero();
        jumpToTheFirstAndTheLastPlace();
        callPutsAFrameOnTop();
        callFindsNothingOfAnEarlierOne();
        callIsAFaultWhenThereAre6();
        newTakesTheLeastThatIsFree();
        newHasAllFieldsZero();
        newLetsUnreachableGoOnlyWhenNoneIsFree();
        newIsAFaultWhenNoneIsFreeThen();
        getAndPutOfEachField();
        getAndPutAreAFaultWithoutSuchAnObject();
        getAndPutAreAFaultForAnotherType();
        loadAndKeepOfEachGlobal();
        waitTakesTheOldest();
        waitWithNoneDoesNothing();
        pointDoesNothing();
        faultOfOneTaskLeavesTheOthers();
        DUE.end();
    }

    /** "ints are added and subtracted wrapping" (2 ADD, 3 SUB) */
    private static void addedAndSubtractedWrapping() {
        int[][] rows = {
            {Code.MAX, 0, Code.MAX, Code.MAX}, {Code.MAX, 1, Code.MIN, Code.MAX - 1},
            {Code.MAX, -1, Code.MAX - 1, Code.MIN},
            {Code.MIN, 0, Code.MIN, Code.MIN}, {Code.MIN, 1, Code.MIN + 1, Code.MAX},
            {Code.MIN, -1, Code.MAX, Code.MIN + 1},
            {0, Code.MIN, Code.MIN, Code.MIN}, {-1, Code.MIN, Code.MAX, Code.MAX}, {0, Code.MAX, Code.MAX, -Code.MAX},
            {Code.MIN, Code.MIN, 0, 0}, {Code.MAX, Code.MAX, -2, 0}, {Code.MAX, Code.MIN, -1, -1}, {7, 12, 19, -5}};
        for (int[] r : rows) {
            SwitchedModules x = Code.running(Code.set(1, r[1]), Code.add(2, 0, 1), Code.sub(1, 0, 1), Code.await(0),
                Code.ret(0));
            x.spawn(0, r[0]);
            DUE.is("no fault", x.step(1, 9), 1);
            DUE.is(r[0] + " + " + r[1], x.frame(1, 0, 4), r[2]);
            DUE.is(r[0] + " - " + r[1], x.frame(1, 0, 3), r[3]);
        }
    }

    /** "The place goes on by one, where nothing else is said" */
    private static void placeGoesOnByOne() {
        int[][] words = {Code.set(1, 5), Code.add(1, 1, 1), Code.sub(1, 1, 1), Code.jump(2, 4), Code.jump(0, 0),
            Code.make(1, 0), Code.put(1, 0, 0), Code.get(2, 1, 0), Code.load(2, 0), Code.keep(2, 0), Code.await(2),
            Code.ret(0)};
        SwitchedModules x = Code.running(words);
        x.spawn(0, 3);
        x.send(1, 1);
        for (int i = 0; i < 11; i++) {
            DUE.is("before " + i, x.frame(1, 0, 1), i);
            DUE.is("instruction " + i, x.step(1, 1), 0);
        }
        DUE.is("at the last one", x.frame(1, 0, 1), 11);
        DUE.is("which ends it", x.step(1, 1), 2);
    }

    /** "0 RETURN a: the frame goes; in the frame below L(x) becomes L(a), where x is the a of the call that made it" */
    private static void returnIntoTheFrameBelow() {
        for (int into = 0; into <= 2; into++) {
            for (int from = 0; from <= 2; from++) {
                SwitchedModules x = Code.runningAll(
                    new int[][] {Code.set(1, 51), Code.set(2, 52), Code.call(into, 1, 0), Code.point(0), Code.ret(0)},
                    new int[][] {Code.set(0, 60), Code.set(1, 61), Code.set(2, 62), Code.ret(from)});
                x.spawn(0, 50);
                x.step(1, 6);
                DUE.is("two frames", x.frames(1), 2);
                DUE.is("one goes", x.step(1, 1), 0);
                DUE.is("one is left", x.frames(1), 1);
                DUE.is("behind its call", x.frame(1, 0, 1), 3);
                for (int local = 0; local <= 2; local++) {
                    int want = local == into ? 60 + from : 50 + local;
                    DUE.is("RETURN " + from + " into " + into + ", local " + local, x.frame(1, 0, 2 + local), want);
                }
            }
        }
    }

    /** "when there is none below, the task has ENDED with that as its result." */
    private static void returnWithNoneBelowEndsTheTask() {
        for (int a = 0; a <= 2; a++) {
            SwitchedModules x = Code.running(Code.set(1, Code.MIN), Code.set(2, 0), Code.ret(a));
            x.spawn(0, Code.MAX);
            DUE.is("not yet", x.step(1, 2), 0);
            DUE.is("ended", x.step(1, 1), 2);
            DUE.is("no frame", x.frames(1), 0);
            DUE.is("RETURN " + a, x.result(1), a == 0 ? Code.MAX : a == 1 ? Code.MIN : 0);
        }
    }

    /** "1 SET a b: L(a) is b." */
    private static void set() {
        for (int b : new int[] {Code.MIN, -1, 0, 1, Code.MAX}) {
            for (int a = 0; a <= 2; a++) {
                SwitchedModules x = Code.running(Code.set(1, 8), Code.set(2, 9), Code.set(a, b), Code.ret(0));
                x.spawn(0, 7);
                x.step(1, 3);
                for (int local = 0; local <= 2; local++) {
                    DUE.is("SET " + a + " " + b, x.frame(1, 0, 2 + local), local == a ? b : 7 + local);
                }
            }
        }
    }

    /** "4 JUMP a b: if L(a) is 0, the place is b." */
    private static void jumpIfZero() {
        for (int v : new int[] {Code.MIN, -1, 0, 1, Code.MAX}) {
            for (int a = 0; a <= 2; a++) {
                int other = (a + 1) % 3;
                SwitchedModules x = Code.running(Code.set(0, 0), Code.set(1, 0), Code.set(2, 0), Code.set(a, v),
                    Code.set(other, v == 0 ? 1 : 0), Code.jump(a, 8), Code.point(0), Code.point(0), Code.ret(0));
                x.spawn(0, 0);
                x.step(1, 6);
                DUE.is("JUMP " + a + " when it is " + v, x.frame(1, 0, 1), v == 0 ? 8 : 6);
            }
        }
    }

    /** The same, with the first and the last place there is, and its own. */
    private static void jumpToTheFirstAndTheLastPlace() {
        for (int b = 0; b < 12; b++) {
            SwitchedModules x = new SwitchedModules();
            for (int i = 0; i < 11; i++) {
                x.word(0, i, 4, 1, b, 0);
            }
            x.word(0, 11, 0, 0, 0, 0);
            Code.switchOver(x);
            x.spawn(0, 0);
            DUE.is("one step", x.step(1, 1), 0);
            DUE.is("JUMP to " + b, x.frame(1, 0, 1), b);
            DUE.is("it goes on from there", x.step(1, 1), b == 11 ? 2 : 0);
        }
    }

    /** "5 CALL a b c: a frame of procedure b at place 0 comes on top, its L(0) is L(c) .., the others 0" */
    private static void callPutsAFrameOnTop() {
        for (int b = 0; b <= 5; b++) {
            for (int c = 0; c <= 2; c++) {
                SwitchedModules x = new SwitchedModules();
                for (int p = 0; p <= 5; p++) {
                    Code.write(x, p, Code.set(1, 91), Code.set(2, 92), Code.call(0, b, c), Code.ret(0));
                }
                Code.switchOver(x);
                x.spawn(0, 90);
                x.step(1, 3);
                int[] want = {b, 0, 90 + c, 0, 0};
                for (int what = 0; what < 5; what++) {
                    DUE.is("CALL of " + b + " with " + c + ", what " + what, x.frame(1, 1, what), want[what]);
                }
                int[] below = {0, 3, 90, 91, 92};
                for (int what = 0; what < 5; what++) {
                    DUE.is("the one below, what " + what, x.frame(1, 0, what), below[what]);
                }
            }
        }
    }

    /** The same: at place 0 and with the others 0 also where a frame has been on top before. */
    private static void callFindsNothingOfAnEarlierOne() {
        SwitchedModules x = Code.runningAll(
            new int[][] {Code.set(1, 31), Code.set(2, 32), Code.call(1, 1, 0), Code.call(2, 2, 2), Code.ret(2)},
            new int[][] {Code.set(0, 40), Code.set(1, 41), Code.set(2, 42), Code.ret(2)},
            new int[][] {Code.point(0), Code.ret(0)});
        x.spawn(0, 30);
        x.step(1, 8);
        int[] want = {2, 0, 32, 0, 0};
        for (int what = 0; what < 5; what++) {
            DUE.is("the second CALL, what " + what, x.frame(1, 1, what), want[what]);
        }
        DUE.is("what the first one gave", x.frame(1, 0, 3), 42);
        DUE.is("it ends", x.step(1, 3), 2);
        DUE.is("what the second one gave", x.result(1), 32);
    }

    /** "a FAULT when there are 6." */
    private static void callIsAFaultWhenThereAre6() {
        SwitchedModules x = Code.running(Code.call(0, 0, 0), Code.ret(0));
        x.spawn(0, 5);
        for (int frames = 2; frames <= 6; frames++) {
            DUE.is("no fault with " + frames, x.step(1, 1), 0);
            DUE.is("frames", x.frames(1), frames);
        }
        DUE.is("a fault", x.step(1, 1), 3);
        DUE.is("no frames then", x.frames(1), 0);
        SwitchedModules y = Code.running(Code.jump(0, 4), Code.set(1, 1), Code.sub(0, 0, 1), Code.call(0, 0, 0),
            Code.ret(0));
        y.spawn(0, 5);
        y.spawn(0, 6);
        DUE.is("six frames come back", y.step(1, 200), 2);
        DUE.is("seven do not", y.step(2, 200), 3);
    }

    /** Procedure 0 makes objects of type 0 and keeps none but the last; 1 keeps its argument in global 0. */
    private static SwitchedModules making() {
        return Code.runningAll(
            new int[][] {Code.make(1, 0), Code.jump(2, 0), Code.ret(0)},
            new int[][] {Code.keep(0, 0), Code.ret(0)},
            new int[][] {Code.make(1, 0), Code.load(0, 0), Code.put(1, 0, 0), Code.keep(1, 0), Code.jump(2, 0),
                Code.ret(0)});
    }

    /** "6 NEW a b: L(a) is the number of a new object of type b, the least that is free" */
    private static void newTakesTheLeastThatIsFree() {
        for (int kept = 1; kept <= 16; kept++) {
            SwitchedModules x = making();
            x.spawn(0, 0);
            x.step(1, 31);
            x.spawn(1, kept);
            x.step(2, 2);
            x.collect();
            x.spawn(0, 0);
            for (int i = 0; i < 14; i++) {
                x.step(3, i == 0 ? 1 : 2);
                DUE.is("the least but " + kept, x.frame(3, 0, 3), leastBut(kept, i));
                DUE.is("its type", x.typeOf(leastBut(kept, i)), 0);
            }
        }
    }

    /** The i-th number, from 0 on, that is free when kept and 16 are not. */
    private static int leastBut(int kept, int i) {
        return i + 1 < kept ? i + 1 : i + 2;
    }

    /** "with all fields 0" */
    private static void newHasAllFieldsZero() {
        SwitchedModules x = Code.running(Code.make(1, 1), Code.put(1, 0, 4), Code.put(1, 0, 5), Code.put(1, 0, 6),
            Code.put(1, 0, 7), Code.set(1, 0), Code.jump(1, 0), Code.ret(0));
        x.spawn(0, -9);
        x.step(1, 5);
        DUE.is("a field is set", x.field(1, 3), -9);
        x.step(1, 2);
        DUE.is("it goes", x.collect(), 1);
        x.step(1, 1);
        DUE.is("a new one of that number", x.frame(1, 0, 3), 1);
        for (int f = 0; f <= 3; f++) {
            DUE.is("field " + f, x.field(1, f), 0);
        }
        x.step(1, 6 + 7 * 14 + 1);
        DUE.is("sixteen", x.heap(), 16);
        x.step(1, 7);
        DUE.is("the rest goes first", x.heap(), 1);
        for (int f = 0; f <= 3; f++) {
            DUE.is("field " + f + " when the rest went", x.field(1, f), 0);
        }
    }

    /** "when none is free, all objects that are not reachable go first" */
    private static void newLetsUnreachableGoOnlyWhenNoneIsFree() {
        SwitchedModules x = making();
        x.spawn(0, 0);
        x.step(1, 29);
        DUE.is("fifteen, of which one is reachable", x.heap(), 15);
        x.step(1, 2);
        DUE.is("one was free: none goes", x.heap(), 16);
        DUE.is("its number", x.frame(1, 0, 3), 16);
        x.step(1, 2);
        DUE.is("none was free: all but 16, which the local held, and the new one", x.heap(), 2);
        DUE.is("16 is there", x.typeOf(16), 0);
        DUE.is("the new one's number", x.frame(1, 0, 3), 1);
    }

    /** "a FAULT when none is free then." */
    private static void newIsAFaultWhenNoneIsFreeThen() {
        SwitchedModules x = making();
        x.spawn(2, 0);
        DUE.is("sixteen that are reachable", x.step(1, 80), 0);
        DUE.is("sixteen", x.heap(), 16);
        DUE.is("a fault", x.step(1, 1), 3);
        DUE.is("no frames then", x.frames(1), 0);
        DUE.is("they are all there", x.heap(), 16);
        x.spawn(1, 15);
        x.step(2, 2);
        x.spawn(0, 0);
        DUE.is("one of them is free then", x.step(3, 1), 0);
        DUE.is("it is 16", x.frame(3, 0, 3), 16);
        DUE.is("sixteen again", x.heap(), 16);
        DUE.is("its own local holds 16 still", x.step(3, 2), 3);
    }

    /** "7 GET a b c: L(a) is the field c % 4 of the object with number L(b). 8 PUT a b c: that field .. is L(b)." */
    private static void getAndPutOfEachField() {
        for (int c = 0; c < 12; c++) {
            SwitchedModules x = new SwitchedModules();
            for (int t = 0; t <= 2; t++) {
                x.fields(t, 4);
            }
            Code.write(x, 0, Code.make(1, c / 4), Code.put(1, 0, c), Code.await(0), Code.get(2, 1, c), Code.ret(0));
            Code.switchOver(x);
            x.spawn(0, Code.MIN);
            DUE.is("PUT", x.step(1, 9), 1);
            for (int f = 0; f <= 3; f++) {
                DUE.is("PUT " + c + ", field " + f, x.field(1, f), f == c % 4 ? Code.MIN : 0);
            }
            x.send(1, 0);
            DUE.is("GET", x.step(1, 2), 0);
            DUE.is("GET " + c, x.frame(1, 0, 4), Code.MIN);
        }
    }

    /** "(7 and 8: a FAULT when there is no such object" */
    private static void getAndPutAreAFaultWithoutSuchAnObject() {
        for (int o : new int[] {Code.MIN, -1, 0, 1, 2, 15, 16, 17, Code.MAX}) {
            for (int[] word : new int[][] {Code.get(2, 0, 0), Code.put(0, 2, 0)}) {
                SwitchedModules x = Code.runningAll(
                    new int[][] {Code.make(1, 0), Code.jump(2, 0), Code.ret(0)}, new int[][] {word, Code.ret(0)});
                x.spawn(0, 0);
                x.step(1, 31);
                x.spawn(1, o);
                boolean there = o >= 1 && o <= 16;
                DUE.is(word[0] + " of object " + o + " of sixteen", x.step(2, 1), there ? 0 : 3);
                DUE.is("its frames", x.frames(2), there ? 1 : 0);
            }
        }
        objectThatIsGone();
    }

    private static void objectThatIsGone() {
        for (int[] word : new int[][] {Code.get(2, 0, 0), Code.put(0, 2, 0)}) {
            SwitchedModules x = Code.running(Code.make(1, 0), Code.set(1, 0), Code.await(0), word, Code.ret(0));
            x.spawn(0, 0);
            x.step(1, 3);
            x.collect();
            x.send(1, 1);
            DUE.is(word[0] + " of an object that is gone", x.step(1, 2), 3);
        }
    }

    /** "or it is not of type c / 4.)" */
    private static void getAndPutAreAFaultForAnotherType() {
        for (int type = 0; type <= 2; type++) {
            for (int c = 0; c < 12; c++) {
                for (int[] word : new int[][] {Code.get(2, 1, c), Code.put(1, 2, c)}) {
                    SwitchedModules x = new SwitchedModules();
                    for (int t = 0; t <= 2; t++) {
                        x.fields(t, 4);
                    }
                    Code.write(x, 0, Code.make(1, type), Code.keep(1, 0), word, Code.ret(0));
                    Code.switchOver(x);
                    x.spawn(0, 0);
                    DUE.is(word[0] + " " + c + " of type " + type, x.step(1, 3), c / 4 == type ? 0 : 3);
                }
            }
        }
    }

    /** "9 LOAD a b: L(a) is global b. 10 KEEP a b: global b is L(a)." */
    private static void loadAndKeepOfEachGlobal() {
        for (int g = 0; g <= 3; g++) {
            SwitchedModules x = Code.running(Code.set(1, Code.MIN), Code.keep(1, g), Code.load(2, g), Code.ret(2));
            x.spawn(0, 0);
            DUE.is("KEEP and LOAD", x.step(1, 4), 2);
            DUE.is("LOAD " + g, x.result(1), Code.MIN);
            for (int other = 0; other <= 3; other++) {
                DUE.is("KEEP " + g + ", global " + other, x.global(other), other == g ? Code.MIN : 0);
            }
        }
    }

    /** "11 WAIT a: L(a) is the oldest int of the task's queue, which leaves it" */
    private static void waitTakesTheOldest() {
        for (int a = 0; a <= 2; a++) {
            SwitchedModules x = Code.running(Code.await(a), Code.await(a), Code.ret(a));
            x.spawn(0, 0);
            x.spawn(0, 0);
            x.send(2, 77);
            for (int v : new int[] {Code.MIN, Code.MAX, 5}) {
                x.send(1, v);
            }
            DUE.is("WAIT " + a, x.step(1, 1), 0);
            DUE.is("the oldest", x.frame(1, 0, 2 + a), Code.MIN);
            DUE.is("the place", x.frame(1, 0, 1), 1);
            DUE.is("it has left the queue", x.send(1, 6), 3);
            DUE.is("WAIT " + a, x.step(1, 1), 0);
            DUE.is("the next one", x.frame(1, 0, 2 + a), Code.MAX);
            DUE.is("its own queue", x.send(2, 78), 2);
        }
    }

    /** "when there is none the task WAITS: nothing is done." */
    private static void waitWithNoneDoesNothing() {
        SwitchedModules x = Code.running(Code.set(1, 3), Code.await(1), Code.keep(1, 0), Code.jump(2, 1), Code.ret(0));
        x.spawn(0, 2);
        x.step(1, 1);
        String before = View.of(x);
        DUE.is("it waits", x.step(1, 200), 1);
        DUE.same("nothing is done", View.of(x), before.replace("task 1 state 0", "task 1 state 1"));
        DUE.is("it waits again", x.step(1, 1), 1);
        DUE.is("the queue is empty", x.send(1, 0), 1);
        DUE.is("the last one, then none", x.step(1, 200), 1);
        DUE.is("a 0 is an int as well", x.frame(1, 0, 3), 0);
        DUE.is("at the WAIT again", x.frame(1, 0, 1), 1);
    }

    /** "12 POINT a: nothing." */
    private static void pointDoesNothing() {
        for (int a = 0; a <= 3; a++) {
            SwitchedModules x = Code.running(Code.set(1, 4), Code.set(2, 5), Code.point(a), Code.ret(0));
            x.spawn(0, 3);
            x.step(1, 2);
            String before = View.of(x);
            DUE.is("POINT " + a, x.step(1, 1), 0);
            DUE.same("nothing but its place", View.of(x), before.replace("frame 0 2 3 4 5", "frame 0 3 3 4 5"));
        }
    }

    /** A fault is the one task's alone, and what it did before stays. */
    private static void faultOfOneTaskLeavesTheOthers() {
        SwitchedModules x = Code.running(Code.make(1, 0), Code.keep(1, 0), Code.put(1, 0, 1), Code.get(2, 2, 0),
            Code.ret(0));
        x.spawn(0, 6);
        x.spawn(0, 7);
        x.step(1, 2);
        DUE.is("a fault", x.step(2, 9), 3);
        DUE.is("the other task", x.state(1), 0);
        DUE.is("its frame", x.frame(1, 0, 1), 2);
        DUE.is("a global that it has kept", x.global(0), 2);
        DUE.is("a field that it has put", x.field(2, 1), 7);
    }
}
