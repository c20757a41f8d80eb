/** What promises 20 to 24 say of their edges and of what is not there: a method a sentence. */
public final class EdgeHeapTest {
    private static final Due DUE = new Due();

    public static void main(String[] args) {
        globalOfEachNumber();
        globalIs0WhenThereIsNoneSuch();
        typeOfEachObject();
        typeOfIsBadWhenThereIsNone();
        fieldOfEachObject();
        fieldIs0WhenThereIsNoSuchObject();
        fieldIs0WhenThereIsNoSuchField();
        heapFrom0To16();
        collectTellsHowManyGo();
        collectOfNone();
        DUE.end();
    }

    /** Sixteen objects in a chain by field 0 from global 0, of type 0; procedure 1 keeps its argument there. */
    private static SwitchedModules sixteen() {
        SwitchedModules x = Code.runningAll(
            new int[][] {Code.make(1, 0), Code.load(0, 0), Code.put(1, 0, 0), Code.put(1, 1, 1), Code.keep(1, 0),
                Code.jump(2, 0), Code.ret(0)},
            new int[][] {Code.keep(0, 0), Code.ret(0)});
        x.spawn(0, 0);
        x.step(1, 96);
        x.step(1, 1);
        return x;
    }

    private static void keep(SwitchedModules x, int object) {
        int task = x.spawn(1, object);
        x.step(task, 2);
    }

    /** Promise 20: "The value of a global" */
    private static void globalOfEachNumber() {
        int[] values = {Code.MAX, -1, Code.MIN, 3};
        for (int g = 0; g <= 3; g++) {
            SwitchedModules x = Code.running(Code.keep(0, g), Code.ret(0));
            x.spawn(0, values[g]);
            DUE.is("20: at first", x.global(g), 0);
            x.step(1, 1);
            for (int other = 0; other <= 3; other++) {
                DUE.is("20: KEEP " + g + ", global " + other, x.global(other), other == g ? values[g] : 0);
            }
        }
    }

    /** "0 when there is none such." */
    private static void globalIs0WhenThereIsNoneSuch() {
        SwitchedModules x = Code.running(Code.keep(0, 0), Code.keep(0, 1), Code.keep(0, 2), Code.keep(0, 3),
            Code.ret(0));
        x.spawn(0, 9);
        x.step(1, 5);
        for (int g : new int[] {Code.MIN, -4, -1, 4, 5, Code.MAX}) {
            DUE.is("20: global " + g, x.global(g), 0);
        }
        DUE.is("20: global 0", x.global(0), 9);
        DUE.is("20: global 3", x.global(3), 9);
    }

    /** Promise 21: "The type of an object" */
    private static void typeOfEachObject() {
        SwitchedModules x = sixteen();
        for (int o = 1; o <= 16; o++) {
            DUE.is("21: object " + o, x.typeOf(o), 0);
        }
        SwitchedModules y = Code.running(Code.make(0, 2), Code.make(1, 1), Code.make(2, 0), Code.await(0), Code.ret(0));
        y.spawn(0, 0);
        y.step(1, 9);
        for (int o = 1; o <= 3; o++) {
            DUE.is("21: object " + o, y.typeOf(o), 3 - o);
        }
    }

    /** "BAD when there is none of that number." */
    private static void typeOfIsBadWhenThereIsNone() {
        SwitchedModules x = sixteen();
        for (int o : new int[] {Code.MIN, -1, 0, 17, Code.MAX}) {
            DUE.is("21: object " + o, x.typeOf(o), Code.BAD);
        }
        keep(x, 5);
        DUE.is("21: not reachable, but there", x.typeOf(6), 0);
        x.collect();
        DUE.is("21: there", x.typeOf(5), 0);
        for (int o = 6; o <= 16; o++) {
            DUE.is("21: gone, object " + o, x.typeOf(o), Code.BAD);
        }
    }

    /** Promise 22: "A field of an object" */
    private static void fieldOfEachObject() {
        SwitchedModules x = sixteen();
        for (int o = 1; o <= 16; o++) {
            DUE.is("22: field 0 of " + o, x.field(o, 0), o - 1);
            DUE.is("22: field 1 of " + o, x.field(o, 1), o);
        }
    }

    /** "0 when there is no such object" */
    private static void fieldIs0WhenThereIsNoSuchObject() {
        SwitchedModules x = sixteen();
        for (int f = 0; f <= 3; f++) {
            for (int o : new int[] {Code.MIN, -1, 0, 17, Code.MAX}) {
                DUE.is("22: field " + f + " of object " + o, x.field(o, f), 0);
            }
        }
        keep(x, 0);
        DUE.is("22: not reachable, but there", x.field(16, 1), 16);
        x.collect();
        for (int o = 1; o <= 16; o++) {
            DUE.is("22: gone, object " + o, x.field(o, 1), 0);
        }
    }

    /** "or field." */
    private static void fieldIs0WhenThereIsNoSuchField() {
        SwitchedModules x = sixteen();
        for (int f : new int[] {Code.MIN, -4, -3, -1, 2, 3, 4, 5, Code.MAX}) {
            for (int o : new int[] {1, 2, 15, 16}) {
                DUE.is("22: field " + f + " of object " + o + ", which has two", x.field(o, f), 0);
            }
        }
        SwitchedModules y = Code.running(Code.make(1, 1), Code.put(1, 0, 7), Code.make(2, 1), Code.put(2, 0, 4),
            Code.await(1), Code.ret(0));
        y.spawn(0, 9);
        y.step(1, 9);
        DUE.is("22: field 3 of four", y.field(1, 3), 9);
        DUE.is("22: field 4 of four", y.field(1, 4), 0);
        DUE.is("22: field -1 of the next one", y.field(2, -1), 0);
    }

    /** Promise 23: "How many objects there are." */
    private static void heapFrom0To16() {
        SwitchedModules x = Code.running(Code.make(1, 0), Code.jump(2, 0), Code.ret(0));
        DUE.is("23: none", x.heap(), 0);
        x.spawn(0, 0);
        for (int n = 1; n <= 16; n++) {
            x.step(1, n == 1 ? 1 : 2);
            DUE.is("23: reachable or not", x.heap(), n);
        }
        x.step(1, 2);
        DUE.is("23: none was free", x.heap(), 2);
        x.collect();
        DUE.is("23: the one that the local holds", x.heap(), 1);
    }

    /** Promise 24: "All objects that are not reachable go: how many." */
    private static void collectTellsHowManyGo() {
        for (int kept = 0; kept <= 16; kept++) {
            SwitchedModules x = sixteen();
            keep(x, kept);
            DUE.is("24: all above " + kept, x.collect(), 16 - kept);
            DUE.is("24: those are left", x.heap(), kept);
            for (int o = 1; o <= 16; o++) {
                DUE.is("24: object " + o, x.typeOf(o), o <= kept ? 0 : Code.BAD);
                DUE.is("24: its field is as it was", x.field(o, 1), o <= kept ? o : 0);
            }
            DUE.is("24: none is left to go", x.collect(), 0);
        }
    }

    /** The same, where there is none that could go. */
    private static void collectOfNone() {
        DUE.is("24: nothing there", new SwitchedModules().collect(), 0);
        SwitchedModules x = sixteen();
        String before = View.of(x);
        DUE.is("24: all are reachable", x.collect(), 0);
        DUE.same("24: nothing is done", View.of(x), before);
        Twin.refuses(DUE, "24: all are reachable", Twin::busy, 0, y -> y.collect());
    }
}
