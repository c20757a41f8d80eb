/** Promises 20 to 24: globals and objects, and what NEW, GET and PUT do. */
public final class HeapTest {
    private static final Due DUE = new Due();

    public static void main(String[] args) {
        global();
        typeOfAndField();
        fieldOfAnother();
        getAndPutFaults();
        leastFreeNumber();
        newWhenNoneIsFree();
        newFaultsWhenAllAreReachable();
        newFieldsAreZero();
        collectByRoots();
        collectThroughFields();
        collectCycle();
        notByQueueOrResult();
        DUE.end();
    }

    private static void global() {
        SwitchedModules x = Code.running(Code.keep(0, 0), Code.set(1, -4), Code.keep(1, 3), Code.ret(0));
        x.spawn(0, 5);
        x.step(1, 9);
        int[] want = {5, 0, 0, -4};
        for (int g = 0; g < 4; g++) {
            DUE.is("20: global " + g, x.global(g), want[g]);
        }
        for (int g : new int[] {Code.MIN, -1, 4, Code.MAX}) {
            DUE.is("20: global " + g, x.global(g), 0);
        }
    }

    private static void typeOfAndField() {
        SwitchedModules x = Code.running(Code.make(1, 1), Code.put(1, 0, 4), Code.put(1, 0, 7), Code.make(2, 2),
            Code.set(0, 0), Code.get(0, 1, 7), Code.add(0, 0, 0), Code.put(2, 0, 8), Code.await(0), Code.ret(0));
        x.spawn(0, 21);
        x.step(1, 99);
        DUE.is("21: the first", x.typeOf(1), 1);
        DUE.is("21: the second", x.typeOf(2), 2);
        for (int o : new int[] {Code.MIN, -1, 0, 3, 16, 17, Code.MAX}) {
            DUE.is("21: object " + o, x.typeOf(o), Code.BAD);
            DUE.is("22: object " + o, x.field(o, 0), 0);
        }
        int[] want = {21, 0, 0, 21};
        for (int f = 0; f < 4; f++) {
            DUE.is("22: field " + f, x.field(1, f), want[f]);
        }
        DUE.is("22: GET and PUT", x.field(2, 0), 42);
        for (int f : new int[] {Code.MIN, -1, 4, 5, Code.MAX}) {
            DUE.is("22: field " + f, x.field(1, f), 0);
        }
        DUE.is("23: heap", x.heap(), 2);
    }

    /** Fields are asked of each object's own: neighbours in number do not show. */
    private static void fieldOfAnother() {
        SwitchedModules x = Code.running(Code.make(1, 2), Code.put(1, 0, 8), Code.make(2, 2), Code.put(2, 0, 8),
            Code.await(0), Code.ret(0));
        x.spawn(0, 6);
        x.step(1, 99);
        for (int f = 1; f <= 4; f++) {
            DUE.is("22: no such field " + f, x.field(1, f), 0);
        }
        DUE.is("22: no field -4", x.field(2, -4), 0);
    }

    private static void faults(String what, int[] word, int argument, boolean want) {
        SwitchedModules x = Code.running(Code.make(1, 0), word, Code.ret(1));
        x.spawn(0, argument);
        DUE.is(what, x.step(1, 9), want ? 3 : 2);
        DUE.is(what + ", heap", x.heap(), 1);
    }

    private static void getAndPutFaults() {
        for (int o : new int[] {Code.MIN, -1, 0, 1, 2, 16, 17, Code.MAX}) {
            faults("GET of object " + o, Code.get(2, 0, 1), o, o != 1);
            faults("PUT to object " + o, Code.put(0, 2, 1), o, o != 1);
        }
        faults("GET of another type", Code.get(2, 0, 5), 1, true);
        faults("PUT to another type", Code.put(0, 2, 8), 1, true);
    }

    /** Procedure 0 makes objects of type 0 without end; procedure 1 chains them by field 0 from global 0. */
    private static SwitchedModules makers() {
        return Code.runningAll(
            new int[][] {Code.make(1, 0), Code.jump(2, 0), Code.ret(0)},
            new int[][] {Code.make(1, 0), Code.load(0, 0), Code.put(1, 0, 0), Code.keep(1, 0), Code.jump(2, 0),
                Code.ret(0)},
            new int[][] {Code.keep(0, 0), Code.ret(0)});
    }

    private static void leastFreeNumber() {
        SwitchedModules x = makers();
        x.spawn(0, 0);
        for (int o = 1; o <= 5; o++) {
            x.step(1, 1);
            DUE.is("NEW: the least number", x.frame(1, 0, 3), o);
            x.step(1, 1);
        }
        x.spawn(2, 2);
        x.step(2, 9);
        DUE.is("24: 2 is a global, 5 is a local", x.collect(), 3);
        x.step(1, 1);
        DUE.is("NEW: the least that is free", x.frame(1, 0, 3), 1);
        x.step(1, 2);
        DUE.is("NEW: the next one", x.frame(1, 0, 3), 3);
        x.step(1, 4);
        DUE.is("NEW: none goes while one is free", x.frame(1, 0, 3), 6);
        DUE.is("23: six", x.heap(), 6);
    }

    private static void newWhenNoneIsFree() {
        SwitchedModules x = makers();
        x.spawn(0, 0);
        x.step(1, 31);
        DUE.is("NEW: sixteen", x.heap(), 16);
        DUE.is("NEW: the last one", x.frame(1, 0, 3), 16);
        DUE.is("NEW: none free, but not reachable", x.step(1, 2), 0);
        DUE.is("NEW: the rest goes", x.heap(), 2);
        DUE.is("NEW: then the least", x.frame(1, 0, 3), 1);
        DUE.is("NEW: what the local held was reachable then", x.typeOf(16), 0);
    }

    private static void newFaultsWhenAllAreReachable() {
        SwitchedModules x = makers();
        x.spawn(1, 0);
        DUE.is("NEW: sixteen in a chain", x.step(1, 80), 0);
        DUE.is("23: sixteen", x.heap(), 16);
        DUE.is("24: all reachable", x.collect(), 0);
        DUE.is("NEW: none is free then", x.step(1, 1), 3);
        DUE.is("23: sixteen still", x.heap(), 16);
        x.spawn(2, 3);
        x.step(2, 9);
        DUE.is("24: the others go", x.collect(), 13);
        x.spawn(1, 0);
        x.step(3, 1);
        DUE.is("NEW: the least of them", x.frame(3, 0, 3), 4);
    }

    private static void newFieldsAreZero() {
        SwitchedModules x = Code.running(Code.make(1, 1), Code.put(1, 0, 4), Code.put(1, 0, 5), Code.put(1, 0, 6),
            Code.put(1, 0, 7), Code.set(1, 0), Code.await(2), Code.make(1, 1), Code.await(2), Code.ret(0));
        x.spawn(0, 77);
        x.step(1, 50);
        DUE.is("24: one goes", x.collect(), 1);
        x.send(1, 0);
        x.step(1, 50);
        DUE.is("NEW: the same number", x.frame(1, 0, 3), 1);
        for (int f = 0; f < 4; f++) {
            DUE.is("NEW: field " + f, x.field(1, f), 0);
        }
    }

    private static void collectByRoots() {
        SwitchedModules x = Code.runningAll(
            new int[][] {Code.make(0, 0), Code.make(1, 0), Code.make(2, 0), Code.keep(1, 3), Code.set(1, 0),
                Code.call(1, 1, 1), Code.ret(0)},
            new int[][] {Code.make(1, 0), Code.make(2, 0), Code.set(2, 0), Code.await(2), Code.ret(0)});
        x.spawn(0, 0);
        DUE.is("24: waits", x.step(1, 50), 1);
        DUE.is("23: five", x.heap(), 5);
        x.spawn(0, 5);
        DUE.is("24: a task not yet run has one in local 0", x.collect(), 0);
        x.step(2, 1);
        DUE.is("24: and gives it up for another", x.collect(), 1);
        DUE.is("24: which stays", x.typeOf(6), 0);
        for (int o = 1; o <= 4; o++) {
            DUE.is("24: by locals and globals " + o, x.typeOf(o), 0);
        }
        DUE.is("24: gone", x.typeOf(5), Code.BAD);
        DUE.is("22: gone", x.field(5, 0), 0);
        DUE.is("24: none then", x.collect(), 0);
    }

    private static void collectThroughFields() {
        SwitchedModules x = makers();
        x.spawn(1, 0);
        x.step(1, 80);
        x.step(1, 1);
        for (int o = 15; o >= 1; o--) {
            SwitchedModules y = makers();
            y.spawn(1, 0);
            y.step(1, 80);
            y.step(1, 1);
            y.spawn(2, o);
            y.step(2, 9);
            DUE.is("24: a chain from " + o, y.collect(), 16 - o);
            DUE.is("23: the chain", y.heap(), o);
        }
        DUE.is("24: the whole chain", x.collect(), 0);
        x.spawn(2, 17);
        x.step(2, 9);
        DUE.is("24: 17 is no object", x.collect(), 16);
        DUE.is("23: none", x.heap(), 0);
    }

    private static void collectCycle() {
        SwitchedModules x = Code.running(Code.make(1, 0), Code.make(2, 0), Code.put(1, 2, 0), Code.put(2, 1, 1),
            Code.put(2, 2, 0), Code.set(1, 0), Code.await(1), Code.ret(0));
        x.spawn(0, 0);
        x.step(1, 50);
        DUE.is("24: a ring that is held", x.collect(), 0);
        x.send(1, 0);
        x.step(1, 50);
        DUE.is("24: a ring that is not", x.collect(), 2);
    }

    private static void notByQueueOrResult() {
        SwitchedModules x = Code.running(Code.make(1, 0), Code.ret(1));
        x.spawn(0, 0);
        x.spawn(0, 0);
        x.send(2, 1);
        x.step(1, 9);
        DUE.is("17: its number is the result", x.result(1), 1);
        DUE.is("24: neither queue nor result holds it", x.collect(), 1);
    }
}
